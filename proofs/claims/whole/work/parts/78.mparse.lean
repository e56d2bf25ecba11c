/-! THE MODEL READS -/
def bgL : List Nat := [0, 4, 10, 17, 23, 30, 36, 41, 47, 52, 58, 66]
def ltL : List Nat := [104, 117, 108, 108, 102, 114, 97, 109, 101, 32, 109, 105, 114, 114, 111, 114, 32, 99, 97, 114, 103, 111, 32, 108, 97, 117, 110, 99, 104, 32, 99, 97, 117, 108, 107, 32, 112, 117, 109, 112, 32, 104, 111, 117, 114, 115, 32, 116, 105, 100, 101, 32, 111, 114, 100, 101, 114, 32, 100, 101, 108, 105, 118, 101, 114, 32]
/-- the model's constant rows -/
def LTt (μ : fM) : Prop := (∀ k, k < 12 → μ.1 38 0 0 k = nI (bgL.getD k 0)) ∧ ∀ k, k < 66 → μ.1 37 0 0 k = nI (ltL.getD k 0)
def MTt (μ : fM) (tx : Nat → Nat) (n : Nat) : Prop := n ≤ 60 ∧ μ.1 8 0 0 22 = nI n ∧ (∀ i, i < n → μ.1 34 0 0 i = nI (tx i) ∧ tx i < 128) ∧ LTt μ
/-- the model's place, and whether it is wrong -/
def pM (μ : fM) (q : Nat × Bool) : fM := fI (fI μ 8 0 0 23 (bI (q.2 = true))) 8 0 0 21 (nI q.1)
def MQt (μ : fM) (tx : Nat → Nat) (n : Nat) (q : Nat × Bool) : Prop := MTt μ tx n ∧ μ.1 8 0 0 21 = nI q.1 ∧ μ.1 8 0 0 23 = bI (q.2 = true) ∧ q.1 ≤ n
theorem MT_out {μ μ' : fM} {tx : Nat → Nat} {n : Nat} (H : MTt μ tx n) (h1 : μ'.1 8 0 0 22 = μ.1 8 0 0 22) (h2 : ∀ c k, c = 34 ∨ c = 37 ∨ c = 38 → μ'.1 c 0 0 k = μ.1 c 0 0 k) : MTt μ' tx n :=
  ⟨H.1, h1.trans H.2.1, fun i hi => ⟨(h2 34 i (by omega)).trans (H.2.2.1 i hi).1, (H.2.2.1 i hi).2⟩, fun k hk => (h2 38 k (by omega)).trans (H.2.2.2.1 k hk), fun k hk => (h2 37 k (by omega)).trans (H.2.2.2.2 k hk)⟩
theorem MQt_pM {μ : fM} {tx : Nat → Nat} {n : Nat} {q : Nat × Bool} (H : MTt μ tx n) (hq : q.1 ≤ n) : MQt (pM μ q) tx n q :=
  ⟨MT_out H ((fI_ne (by omega)).trans (fI_ne (by omega))) (fun c k hc => (fI_ne (by omega)).trans (fI_ne (by omega))), fI_at, (fI_ne (by omega)).trans fI_at, hq⟩
theorem pM_pM {μ : fM} {q r : Nat × Bool} : pM (pM μ q) r = pM μ r := by
  refine Prod.ext ?_ rfl
  funext c y h k
  simp only [pM, fI]
  split
  · rfl
  · split
    · rfl
    · simp_all
def pMP (C _y _h k : Nat) : Prop := C = 8 ∧ (k = 21 ∨ k = 23)
theorem pM_out {μ : fM} {q : Nat × Bool} : sX' pMP μ (pM μ q) := sX_trans (sX_fI ⟨rfl, by omega⟩) (sX_fI ⟨rfl, by omega⟩)
def hrT (tx : Nat → Nat) (n p : Nat) : Int32 := if p < n then nI (tx p) else -1
theorem g_here {μ : fM} {tx : Nat → Nat} {n : Nat} {q : Nat × Bool} (H : MQt μ tx n q) : sX8_here [vR 8 0 0] μ = some (.inl (some (vI (hrT tx n q.1))), μ) := by
  have hn := H.1.1
  have h2 := H.1.2.1
  have h1 := H.2.1
  have hq := H.2.2.2
  refine fsemV_of (Nat.le_of_ble_eq_true rfl) ?_
  unfold hrT
  refine fE_ite 5 (fun _ => rfl) (fun a => ?_) (fun a => ?_)
  · skip
    have a : μ.1 8 0 0 22 ≤ μ.1 8 0 0 21 := a
    rw [h1, h2] at a
    have a := (nI_leI (by omega) (by omega)).mp a
    rw [if_neg (by omega)]
    exact fE_ret 2 (fun _ => rfl)
  · skip
    have a : ¬ μ.1 8 0 0 22 ≤ μ.1 8 0 0 21 := a
    rw [h1, h2] at a
    have a : q.1 < n := Nat.not_le.mp fun P => a (nI_le P (by omega))
    rw [if_pos a]
    refine fE_pos (by exact g_in (k := q.1) h1 (show q.1 < 60 from by omega) (by decide)) 5 (fun _ => rfl) ?_
    refine fE_ret2 2 (fun _ => rfl) ?_
    show (Sum.inl (some (vI (μ.1 34 0 0 (μ.1 8 0 0 21).toNatClampNeg))), μ) = _
    rw [h1, nI_clamp (by omega), (H.1.2.2.1 q.1 a).1]
theorem hr_eq {tx : Nat → Nat} {n p c : Nat} (ht : p < n → tx p < 128) (hc : c < 128) : (hrT tx n p = nI c) ↔ (p < n ∧ tx p = c) := by
  unfold hrT
  split
  · rename_i h
    have := ht h
    rw [nI_eq (by omega) (by omega)]
    exact ⟨fun e => ⟨h, e⟩, fun e => e.2⟩
  · rename_i h
    refine ⟨fun e => ?_, fun e => absurd e.1 h⟩
    have := congrArg Int32.toInt e
    rw [nI_toInt (by omega)] at this
    have e1 : (-1 : Int32).toInt = -1 := by decide
    omega
theorem hr_in {tx : Nat → Nat} {n p : Nat} (ht : p < n → tx p < 128) : (nI 48 ≤ hrT tx n p ∧ hrT tx n p ≤ nI 57) ↔ isD tx n p := by
  unfold hrT
  split
  · rename_i h
    have := ht h
    rw [nI_leI (by omega) (by omega), nI_leI (by omega) (by omega)]
    exact ⟨fun e => ⟨h, e⟩, fun e => e.2⟩
  · rename_i h
    refine ⟨fun e => ?_, fun e => absurd e.1 h⟩
    exact absurd e.1 (by decide)
def stE (tx : Nat → Nat) (n c : Nat) (q : Nat × Bool) : Nat × Bool := if q.2 = false ∧ q.1 < n ∧ tx q.1 = c then (q.1 + 1, false) else (q.1, true)
def stD (tx : Nat → Nat) (n : Nat) (q : Nat × Bool) : Nat × Bool := if q.2 = false ∧ isD tx n q.1 then (q.1 + 1, false) else (q.1, true)
def vlD (tx : Nat → Nat) (n : Nat) (q : Nat × Bool) : Nat := if q.2 = false ∧ isD tx n q.1 then tx q.1 - 48 else 0
def stN (tx : Nat → Nat) (n : Nat) (q : Nat × Bool) : Nat × Bool := if q.2 = false ∧ isD tx n q.1 then (q.1 + cD tx n q.1 3, false) else (q.1, true)
def vlN (tx : Nat → Nat) (n : Nat) (q : Nat × Bool) : Nat := if q.2 = false ∧ isD tx n q.1 then vlT tx q.1 (cD tx n q.1 3) else 0
theorem stE_le {tx : Nat → Nat} {n c : Nat} {q : Nat × Bool} (h : q.1 ≤ n) : (stE tx n c q).1 ≤ n := by
  unfold stE
  split
  · rename_i g; have := g.2.1; show q.1 + 1 ≤ n; omega
  · exact h
theorem stD_le {tx : Nat → Nat} {n : Nat} {q : Nat × Bool} (h : q.1 ≤ n) : (stD tx n q).1 ≤ n := by
  unfold stD
  split
  · rename_i g; have := g.2.1; show q.1 + 1 ≤ n; omega
  · exact h
theorem stN_le {tx : Nat → Nat} {n : Nat} {q : Nat × Bool} (h : q.1 ≤ n) : (stN tx n q).1 ≤ n := by
  unfold stN
  split
  · exact cD_n h
  · exact h
theorem b_wr {b : Bool} : (bI (b = true) = 0) ↔ b = false := by cases b <;> simp [bI]
/-- the place goes on unless it is wrong -/
theorem g_exp_2 {ν : fM} {p c : Nat} {w : Bool} (h1 : ν.1 8 0 0 21 = nI p) (h3 : ν.1 8 0 0 23 = bI (w = true)) : fEnds (fun zz => frun eX8_expects tX8_expects zz 24 [kR 8 0 0, kN c] [] ν 0 0) (.inl none, fI ν 8 0 0 21 (nI (if w = true then p else p + 1))) := by
  cases w with
  | true =>
    refine fE_neg (fun a => by change ν.1 8 0 0 23 = 0 at a; rw [h3] at a; exact absurd a (by decide)) 6 (fun _ => rfl) ?_
    refine fE_ret2 5 (fun _ => rfl) ?_
    show (Sum.inl none, fI ν 8 0 0 21 (ν.1 8 0 0 21 + 0)) = _
    rw [h1, Int32.add_zero]
    rfl
  | false =>
    refine fE_pos (by show ν.1 8 0 0 23 = 0; rw [h3]; decide) 6 (fun _ => rfl) ?_
    refine fE_ret2 4 (fun _ => rfl) ?_
    show (Sum.inl none, fI ν 8 0 0 21 (ν.1 8 0 0 21 + 1)) = _
    rw [h1, nI_1]
    rfl
theorem g_expects {μ : fM} {tx : Nat → Nat} {n c : Nat} {q : Nat × Bool} (H : MQt μ tx n q) (hc : c < 128) : sX8_expects [vR 8 0 0, vI (nI c)] μ = some (.inl none, pM μ (stE tx n c q)) := by
  have h3 := H.2.2.1
  have hq := H.2.2.2
  have fin : ∀ w : Bool, w = (stE tx n c q).2 → fEnds (fun zz => frun eX8_expects tX8_expects zz 24 [kR 8 0 0, kN c] [] (fI μ 8 0 0 23 (bI (w = true))) 0 0) (.inl none, pM μ (stE tx n c q)) := fun w hw => by
    have R := g_exp_2 (ν := fI μ 8 0 0 23 (bI (w = true))) (p := q.1) (c := c) (w := w) ((fI_ne (by omega)).trans H.2.1) fI_at
    have e : (if w = true then q.1 else q.1 + 1) = (stE tx n c q).1 := by
      subst hw
      unfold stE
      split <;> rfl
    rw [e, hw] at R
    rw [hw]
    exact R
  refine fsemV_of (Nat.le_of_ble_eq_true rfl) ?_
  refine fE_ite 4 (fun _ => rfl) (fun a => ?_) (fun a => ?_)
  · skip
    have a : μ.1 8 0 0 23 = 0 := a
    rw [h3] at a
    have a := b_wr.mp a
    refine fE_call (g_here H) 2 (fun _ => rfl) ?_
    refine fE_ite 2 (fun _ => rfl) (fun b => ?_) (fun b => ?_)
    · skip
      have b := (hr_eq (fun g => (H.1.2.2.1 q.1 g).2) hc).mp b
      refine fE_step (y := fun zz => frun _ _ zz 24 [kR 8 0 0, kN c] [] (fI μ 8 0 0 23 0) 0 0) 2 (fun _ => rfl) ?_
      exact fin false (by unfold stE; rw [if_pos ⟨a, b⟩])
    · skip
      have b := fun g => b ((hr_eq (fun g => (H.1.2.2.1 q.1 g).2) hc).mpr g)
      refine fE_step (y := fun zz => frun _ _ zz 24 [kR 8 0 0, kN c] [] (fI μ 8 0 0 23 1) 0 0) 3 (fun _ => rfl) ?_
      exact fin true (by unfold stE; rw [if_neg (fun g => b g.2)])
  · skip
    have a : ¬ μ.1 8 0 0 23 = 0 := a
    rw [h3] at a
    have a : ¬ q.2 = false := fun g => a (b_wr.mpr g)
    refine fE_step (y := fun zz => frun _ _ zz 24 [kR 8 0 0, kN c] [] (fI μ 8 0 0 23 1) 0 0) 3 (fun _ => rfl) ?_
    exact fin true (by unfold stE; rw [if_neg (fun g => a g.1)])
theorem g_dig_2 {ν : fM} {tx : Nat → Nat} {n : Nat} {q : Nat × Bool} (H : MQt ν tx n q) (hq : q.2 = false → isD tx n q.1) : fEnds (fun zz => frun eX8_digit tX8_digit zz 33 [kR 8 0 0, none] [] ν 0 0) (.inl (some (vI (nI (if q.2 = true then 0 else tx q.1 - 48)))), fI ν 8 0 0 21 (nI (if q.2 = true then q.1 else q.1 + 1))) := by
  have h1 := H.2.1
  have h3 := H.2.2.1
  obtain ⟨p, w⟩ := q
  cases w with
  | true =>
    have h3 : ν.1 8 0 0 23 = 1 := h3
    refine fE_neg (fun a => by change ν.1 8 0 0 23 = 0 at a; rw [h3] at a; exact absurd a (by decide)) 3 (fun _ => rfl) ?_
    refine fE_neg (fun a => by change ν.1 8 0 0 23 = 0 at a; rw [h3] at a; exact absurd a (by decide)) 9 (fun _ => rfl) ?_
    refine fE_ret2 6 (fun _ => rfl) ?_
    show (Sum.inl (some (vI 0)), fI ν 8 0 0 21 (ν.1 8 0 0 21 + 0)) = _
    rw [h1, Int32.add_zero]
    rfl
  | false =>
    have hd := hq rfl
    have h3 : ν.1 8 0 0 23 = 0 := h3
    refine fE_pos (by show ν.1 8 0 0 23 = 0; rw [h3]) 3 (fun _ => rfl) ?_
    refine fE_call (g_here H) 2 (fun _ => rfl) ?_
    refine fE_pos (by show ν.1 8 0 0 23 = 0; rw [h3]) 9 (fun _ => rfl) ?_
    refine fE_ret2 5 (fun _ => rfl) ?_
    show (Sum.inl (some (vI (hrT tx n p - 48))), fI ν 8 0 0 21 (ν.1 8 0 0 21 + 1)) = _
    rw [h1, nI_1, hrT, if_pos hd.1, fLit 48, pk_sub hd.2.1]
    rfl
theorem g_digit {μ : fM} {tx : Nat → Nat} {n : Nat} {q : Nat × Bool} (H : MQt μ tx n q) : sX8_digit [vR 8 0 0] μ = some (.inl (some (vI (nI (vlD tx n q)))), pM μ (stD tx n q)) := by
  have h3 := H.2.2.1
  have ht : q.1 < n → tx q.1 < 128 := fun g => (H.1.2.2.1 q.1 g).2
  have fin : ∀ w : Bool, w = (stD tx n q).2 → fEnds (fun zz => frun eX8_digit tX8_digit zz 33 [kR 8 0 0, none] [] (fI μ 8 0 0 23 (bI (w = true))) 0 0) (.inl (some (vI (nI (vlD tx n q)))), pM μ (stD tx n q)) := fun w hw => by
    have H1 : MQt (fI μ 8 0 0 23 (bI (w = true))) tx n (q.1, w) := ⟨MT_out H.1 (fI_ne (by omega)) (fun c k hc => fI_ne (by omega)), (fI_ne (by omega)).trans H.2.1, fI_at, H.2.2.2⟩
    have hd : w = false → isD tx n q.1 ∧ q.2 = false := fun e => by
      rw [hw] at e
      unfold stD at e
      split at e
      · rename_i g; exact ⟨g.2, g.1⟩
      · cases e
    have R := g_dig_2 H1 (fun e => (hd e).1)
    have e1 : (if w = true then 0 else tx q.1 - 48) = vlD tx n q := by
      unfold vlD
      cases w with
      | true =>
        unfold stD at hw
        split at hw
        · cases hw
        · rename_i g; rw [if_pos rfl, if_neg g]
      | false => rw [if_neg (by decide), if_pos ⟨(hd rfl).2, (hd rfl).1⟩]
    have e2 : (if w = true then q.1 else q.1 + 1) = (stD tx n q).1 := by
      subst hw
      unfold stD
      split <;> rfl
    change fEnds _ (.inl (some (vI (nI (if w = true then 0 else tx q.1 - 48)))), fI (fI μ 8 0 0 23 (bI (w = true))) 8 0 0 21 (nI (if w = true then q.1 else q.1 + 1))) at R
    rw [e1, e2, hw] at R
    rw [hw]
    exact R
  have hin := m_inL (hrT tx n q.1) 48 57 μ (by decide) (by decide)
  refine fsemV_of (Nat.le_of_ble_eq_true rfl) ?_
  refine fE_ite 4 (fun _ => rfl) (fun a => ?_) (fun a => ?_)
  · skip
    have a : μ.1 8 0 0 23 = 0 := a
    rw [h3] at a
    have a := b_wr.mp a
    refine fE_call (g_here H) 2 (fun _ => rfl) ?_
    refine fE_call (hin) 4 (fun _ => rfl) ?_
    refine fE_ite 1 (fun _ => rfl) (fun b => ?_) (fun b => ?_)
    · skip
      have b : ¬ isD tx n q.1 := fun g => bI_0.mp b ((hr_in ht).mpr g)
      refine fE_step (y := fun zz => frun _ _ zz 33 [kR 8 0 0, none] [] (fI μ 8 0 0 23 1) 0 0) 3 (fun _ => rfl) ?_
      exact fin true (by unfold stD; rw [if_neg (fun g => b g.2)])
    · skip
      have b : isD tx n q.1 := (hr_in ht).mp (bI_n.mp b)
      refine fE_step (y := fun zz => frun _ _ zz 33 [kR 8 0 0, none] [] (fI μ 8 0 0 23 0) 0 0) 2 (fun _ => rfl) ?_
      exact fin false (by unfold stD; rw [if_pos ⟨a, b⟩])
  · skip
    have a : ¬ μ.1 8 0 0 23 = 0 := a
    rw [h3] at a
    have a : ¬ q.2 = false := fun g => a (b_wr.mpr g)
    refine fE_step (y := fun zz => frun _ _ zz 33 [kR 8 0 0, none] [] (fI μ 8 0 0 23 1) 0 0) 3 (fun _ => rfl) ?_
    exact fin true (by unfold stD; rw [if_neg (fun g => a g.1)])
theorem g_num_1 {μ : fM} {tx : Nat → Nat} {n p : Nat} : ∀ j d k (ν : fM), d + j = 3 → k + 1 = d → MQt ν tx n (p + d, false) → (∀ i, i < d → isD tx n (p + i)) → fEnds (fun zz => frun eX8_number tX8_number zz 7 [kR 8 0 0, kN (vlT tx p d), kN k] [] ν 0 0) (.inl (some (vI (nI (vlT tx p (nF (fun d => ¬ isD tx n (p + d)) d j))))), if j = 0 ∨ ¬ isD tx n (p + d) then ν else pM ν (p + nF (fun d => ¬ isD tx n (p + d)) d j, false))
  | 0, d, k, ν, e, hk, H, hd => by
    obtain rfl : d = 3 := e
    obtain rfl : k = 2 := by omega
    exact fE_ret 5 (fun _ => rfl)
  | j + 1, d, k, ν, e, hk, H, hd => by
    have h3 : ν.1 8 0 0 23 = 0 := H.2.2.1
    have ht : p + d < n → tx (p + d) < 128 := fun g => (H.1.2.2.1 _ g).2
    have hin := m_inL (hrT tx n (p + d)) 48 57 ν (by decide) (by decide)
    have hv : vlT tx p d < 10 ^ 3 := Nat.lt_of_lt_of_le (vlT_lt hd) (Nat.pow_le_pow_right (by decide) (by omega))
    have hdig := g_digit H
    refine fE_neg (by first | omega | (simp (disch := omega) only [fLit, nI_add, pk_mul, pk_rem, nI_clamp, beq01, beq11, cond_false, cond_true, nI_leI, nI_ltI, nI_eq]; done) | (simp (disch := omega) only [fLit, nI_add, pk_mul, pk_rem, nI_clamp, beq01, beq11, cond_false, cond_true, nI_leI, nI_ltI, nI_eq]; omega)) 3 (fun _ => rfl) ?_
    refine fE_pos (by show ν.1 8 0 0 23 = 0; rw [h3]) 3 (fun _ => rfl) ?_
    refine fE_call (g_here H) 2 (fun _ => rfl) ?_
    refine fE_call (hin) 4 (fun _ => rfl) ?_
    refine fE_ite 1 (fun _ => rfl) (fun b => ?_) (fun b => ?_)
    · skip
      have b : ¬ isD tx n (p + d) := fun g => bI_0.mp b ((hr_in ht).mpr g)
      rw [nF, if_pos b, if_pos (Or.inr b)]
      exact fE_ret 2 (fun _ => rfl)
    · skip
      have b : isD tx n (p + d) := (hr_in ht).mp (bI_n.mp b)
      have s1 : stD tx n (p + d, false) = (p + (d + 1), false) := by unfold stD; rw [if_pos ⟨rfl, b⟩]; rfl
      have v1 : vlD tx n (p + d, false) = tx (p + d) - 48 := by unfold vlD; rw [if_pos ⟨rfl, b⟩]
      rw [s1, v1] at hdig
      have H1 : MQt (pM ν (p + (d + 1), false)) tx n (p + (d + 1), false) := MQt_pM H.1 (by have := b.1; show p + (d + 1) ≤ n; omega)
      have R := g_num_1 (μ := μ) (tx := tx) (n := n) (p := p) j (d + 1) (k + 1) _ (by omega) (by omega) H1 (fun i hi => by
        by_cases c : i = d
        · rw [c]; exact b
        · exact hd i (by omega))
      rw [nF, if_neg (fun g => g b), if_neg (by rintro (g | g); cases g; exact g b)]
      refine fE_call (hdig) 5 (fun _ => rfl) ?_
      refine fE_step (y := fun zz => frun _ _ zz 7 [kR 8 0 0, kX (10 * nI (vlT tx p d) + nI (tx (p + d) - 48)), kX (nI k + 1)] [] _ 0 0) 4 (fun _ => rfl) ?_
      rw [fLit 10, pk_mul, nI_add, nI_1]
      by_cases c : j = 0 ∨ ¬ isD tx n (p + (d + 1))
      · rw [if_pos c] at R
        have e2 : nF (fun d => ¬ isD tx n (p + d)) (d + 1) j = d + 1 := by
          cases j with
          | zero => rfl
          | succ j =>
            rcases c with c | c
            · cases c
            · rw [nF, if_pos c]
        rw [e2] at R ⊢
        exact R
      · rw [if_neg c, pM_pM] at R
        exact R
theorem cD_pos {tx : Nat → Nat} {n p : Nat} (h : isD tx n p) : cD tx n p 3 = nF (fun d => ¬ isD tx n (p + d)) 1 2 := by
  unfold cD
  rw [nF, if_neg (fun g => g h)]
theorem g_number {μ : fM} {tx : Nat → Nat} {n : Nat} {q : Nat × Bool} (H : MQt μ tx n q) : sX8_number [vR 8 0 0] μ = some (.inl (some (vI (nI (vlN tx n q)))), pM μ (stN tx n q)) := by
  have hdig := g_digit H
  refine fsemV_of (Nat.le_of_ble_eq_true rfl) ?_
  by_cases g : q.2 = false ∧ isD tx n q.1
  · have s1 : stD tx n q = (q.1 + 1, false) := if_pos g
    have v1 : vlD tx n q = tx q.1 - 48 := if_pos g
    have s2 : stN tx n q = (q.1 + cD tx n q.1 3, false) := if_pos g
    have v2 : vlN tx n q = vlT tx q.1 (cD tx n q.1 3) := if_pos g
    rw [s1, v1] at hdig
    rw [s2, v2]
    have H1 : MQt (pM μ (q.1 + 1, false)) tx n (q.1 + 1, false) := MQt_pM H.1 (by have := g.2.1; show q.1 + 1 ≤ n; omega)
    have R := g_num_1 (μ := μ) (tx := tx) (n := n) (p := q.1) 2 1 0 _ rfl rfl H1 (fun i hi => by
      obtain rfl : i = 0 := by omega
      exact g.2)
    rw [← cD_pos g.2, show vlT tx q.1 1 = tx q.1 - 48 from by simp [vlT]] at R
    refine fE_call (hdig) 2 (fun _ => rfl) ?_
    refine fE_step (y := fun zz => frun _ _ zz 7 [kR 8 0 0, kN (tx q.1 - 48), kN 0] [] _ 0 0) 3 (fun _ => rfl) ?_
    by_cases c : (2 = 0) ∨ ¬ isD tx n (q.1 + 1)
    · rw [if_pos c] at R
      have e2 : cD tx n q.1 3 = 1 := by
        rw [cD_pos g.2]
        rcases c with c | c
        · cases c
        · rw [nF, if_pos c]
      rw [e2] at R ⊢
      exact R
    · rw [if_neg c, pM_pM] at R
      exact R
  · have s1 : stD tx n q = (q.1, true) := if_neg g
    have v1 : vlD tx n q = 0 := if_neg g
    have s2 : stN tx n q = (q.1, true) := if_neg g
    have v2 : vlN tx n q = 0 := if_neg g
    rw [s1, v1] at hdig
    rw [s2, v2]
    have h3 : (pM μ (q.1, true)).1 8 0 0 23 = 1 := (fI_ne (by omega)).trans fI_at
    revert h3 hdig
    generalize pM μ (q.1, true) = ν
    intro hdig h3
    refine fE_call (hdig) 2 (fun _ => rfl) ?_
    refine fE_neg (fun a => by change ν.1 8 0 0 23 = 0 at a; rw [h3] at a; exact absurd a (by decide)) 9 (fun _ => rfl) ?_
    exact fE_ret 2 (fun _ => rfl)
theorem g_digitBehind {μ : fM} {tx : Nat → Nat} {n : Nat} {q : Nat × Bool} (H : MQt μ tx n q) : sX8_digitBehind [vR 8 0 0] μ = some (.inl (some (vI (nI (vlD tx n (stE tx n 32 q))))), pM μ (stD tx n (stE tx n 32 q))) := by
  have he := g_expects (c := 32) H (by omega)
  have hd := g_digit (MQt_pM (q := stE tx n 32 q) H.1 (stE_le H.2.2.2))
  rw [pM_pM] at hd
  refine fsemV_of (Nat.le_of_ble_eq_true rfl) ?_
  refine fE_call (he) 3 (fun _ => rfl) ?_
  refine fE_call (hd) 2 (fun _ => rfl) ?_
  exact fE_ret 1 (fun _ => rfl)
theorem g_numberBehind {μ : fM} {tx : Nat → Nat} {n c : Nat} {q : Nat × Bool} (H : MQt μ tx n q) (hc : c < 128) : sX8_numberBehind [vR 8 0 0, vI (nI c)] μ = some (.inl (some (vI (nI (vlN tx n (stE tx n c q))))), pM μ (stN tx n (stE tx n c q))) := by
  have he := g_expects (c := c) H hc
  have hd := g_number (MQt_pM (q := stE tx n c q) H.1 (stE_le H.2.2.2))
  rw [pM_pM] at hd
  refine fsemV_of (Nat.le_of_ble_eq_true rfl) ?_
  refine fE_call (he) 3 (fun _ => rfl) ?_
  refine fE_call (hd) 2 (fun _ => rfl) ?_
  exact fE_ret 1 (fun _ => rfl)
/-- how much of a word stands at p -/
def lkL (tx : Nat → Nat) (n : Nat) : List Nat → Nat → Nat
  | [], _ => 0
  | s :: r, p => if p < n ∧ tx p = s then 1 + lkL tx n r (p + 1) else 0
theorem lkL_le {tx : Nat → Nat} {n : Nat} : ∀ {L : List Nat} {p : Nat}, lkL tx n L p ≤ L.length ∧ (p ≤ n → p + lkL tx n L p ≤ n)
  | [], p => ⟨Nat.le_refl _, fun h => h⟩
  | s :: r, p => by
    rw [lkL]
    split
    · rename_i g
      have ih := lkL_le (tx := tx) (n := n) (L := r) (p := p + 1)
      exact ⟨by have := ih.1; show 1 + lkL tx n r (p + 1) ≤ r.length + 1; omega, fun _ => by have := ih.2 (by omega); omega⟩
    · exact ⟨Nat.zero_le _, fun h => h⟩
theorem bg_ok : ∀ k, k < 11 → bgL.getD (k + 1) 0 = bgL.getD k 0 + (wd k).length ∧ bgL.getD (k + 1) 0 ≤ 66 ∧ ∀ i, i < (wd k).length → ltL.getD (bgL.getD k 0 + i) 0 = (wd k).getD i 0 ∧ (wd k).getD i 0 < 128 := by decide +kernel
theorem g_lk_1 {μ : fM} {tx : Nat → Nat} {n k : Nat} {q : Nat × Bool} (hk : k < 11) (H : MQt μ tx n q) : ∀ (L : List Nat) i, i + L.length = (wd k).length → (∀ m s, L[m]? = some s → (wd k).getD (i + m) 0 = s) → q.1 + i ≤ n → fEnds (fun zz => frun eX8_likeness tX8_likeness zz 18 [kR 8 0 0, kN k, kN i, kN (wd k).length] [] μ 0 0) (.inl (some (vI (nI (i + lkL tx n L (q.1 + i))))), μ)
  | [], i, e, hL, hi => by
    have B := bg_ok k hk
    have e : i = (wd k).length := by simpa using e
    have hb := B.2.1
    refine fE_pos (by exact nI_le (by omega) (by omega)) 3 (fun _ => rfl) ?_
    exact fE_ret 2 (fun _ => rfl)
  | s :: r, i, e, hL, hi => by
    have B := bg_ok k hk
    have hb := B.2.1
    have b0 : bgL.getD k 0 ≤ 66 := by have := B.1; omega
    have e : i + (r.length + 1) = (wd k).length := e
    have hn := H.1.1
    have h1 := H.2.1
    have h2 := H.1.2.1
    have hs : (wd k).getD i 0 = s := hL 0 s rfl
    have Bi := B.2.2 i (by omega)
    have l1 := H.1.2.2.2.1 k (by omega)
    have l2 := H.1.2.2.2.2 (bgL.getD k 0 + i) (by have := B.1; omega)
    rw [Bi.1, hs] at l2
    rw [hs] at Bi
    rw [lkL]
    refine fE_neg (fun P => by have := (nI_leI (by omega) (by omega)).mp P; omega) 3 (fun _ => rfl) ?_
    refine fE_ite 7 (fun _ => rfl) (fun a => ?_) (fun a => ?_)
    · skip
      have a : μ.1 8 0 0 22 ≤ μ.1 8 0 0 21 + nI i := a
      rw [h1, h2, nI_add] at a
      have a := (nI_leI (by omega) (by omega)).mp a
      rw [if_neg (by omega)]
      exact fE_ret 2 (fun _ => rfl)
    · skip
      have a : ¬ μ.1 8 0 0 22 ≤ μ.1 8 0 0 21 + nI i := a
      rw [h1, h2, nI_add] at a
      have a : q.1 + i < n := Nat.not_le.mp fun P => a (nI_le P (by omega))
      have t := H.1.2.2.1 (q.1 + i) a
      refine fE_pos (by refine g_in (k := q.1 + i) ?_ (show q.1 + i < 60 from by omega) (by decide); show μ.1 8 0 0 21 + nI i = _; rw [h1, nI_add]) 7 (fun _ => rfl) ?_
      refine fE_pos (by refine g_in (k := k) ?_ (show k < 12 from by omega) (show 12 < 2 ^ 31 from by decide); first | rfl | (simp (disch := omega) only [fLit, nI_add, pk_mul, pk_rem, pk_sub, nI_clamp]; done)) 6 (fun _ => rfl) ?_
      refine fE_pos (by refine g_in (k := bgL.getD k 0 + i) ?_ (show bgL.getD k 0 + i < 66 by have := B.1; omega) (by decide); show μ.1 38 0 0 (nI k).toNatClampNeg + nI i = _; rw [nI_clamp (by omega), l1, nI_add]) 3 (fun _ => rfl) ?_
      refine fE_step (y := fun zz => frun _ _ zz 60 [kR 8 0 0, kN k, kN i, kN (wd k).length] [vI (μ.1 37 0 0 (μ.1 38 0 0 (nI k).toNatClampNeg + nI i).toNatClampNeg), vI (μ.1 34 0 0 (μ.1 8 0 0 21 + nI i).toNatClampNeg)] _ 0 0) 0 (fun _ => rfl) ?_
      rw [h1, nI_add, nI_clamp (show k < 2 ^ 31 by omega), l1, nI_add, nI_clamp (show q.1 + i < 2 ^ 31 by omega), nI_clamp (show bgL.getD k 0 + i < 2 ^ 31 by omega), t.1, l2]
      refine fE_ite 1 (fun _ => rfl) (fun b => ?_) (fun b => ?_)
      · skip
        have b := (nI_eq (by omega) (by omega)).mp b
        rw [if_pos ⟨a, b⟩]
        refine fE_step (y := fun zz => frun _ _ zz 18 [kR 8 0 0, kN k, kX (nI i + 1), kN (wd k).length] [] _ 0 0) 2 (fun _ => rfl) ?_
        rw [nI_1]
        have R := g_lk_1 hk H r (i + 1) (by omega) (fun m s' h => by
          have := hL (m + 1) s' (by simpa using h)
          rwa [show i + (m + 1) = i + 1 + m from by omega] at this) (by omega)
        rw [show i + 1 + lkL tx n r (q.1 + (i + 1)) = i + (1 + lkL tx n r (q.1 + i + 1)) from by rw [← Nat.add_assoc q.1, Nat.add_assoc i 1]] at R
        exact R
      · skip
        have b : ¬ tx (q.1 + i) = s := fun P => b (congrArg nI P)
        rw [if_neg (fun P => b P.2)]
        exact fE_ret 2 (fun _ => rfl)
theorem g_likeness {μ : fM} {tx : Nat → Nat} {n k : Nat} {q : Nat × Bool} (hk : k < 11) (H : MQt μ tx n q) : sX8_likeness [vR 8 0 0, vI (nI k)] μ = some (.inl (some (vI (nI (lkL tx n (wd k) q.1)))), μ) := by
  have B := bg_ok k hk
  have l1 := H.1.2.2.2.1 k (by omega)
  have l2 := H.1.2.2.2.1 (k + 1) (by omega)
  have R := g_lk_1 hk H (wd k) 0 (by omega) (fun m s h => by
    rw [Nat.zero_add, List.getD_eq_getElem?_getD, h]
    rfl) H.2.2.2
  rw [Nat.zero_add] at R
  refine fsemV_of (Nat.le_of_ble_eq_true rfl) ?_
  refine fE_pos (by refine g_in (k := k + 1) ?_ (show k + 1 < 12 from by omega) (show 12 < 2 ^ 31 from by decide); first | rfl | (simp (disch := omega) only [fLit, nI_add, pk_mul, pk_rem, pk_sub, nI_clamp]; done)) 8 (fun _ => rfl) ?_
  refine fE_pos (by refine g_in (k := k) ?_ (show k < 12 from by omega) (show 12 < 2 ^ 31 from by decide); first | rfl | (simp (disch := omega) only [fLit, nI_add, pk_mul, pk_rem, pk_sub, nI_clamp]; done)) 4 (fun _ => rfl) ?_
  refine fE_step (y := fun zz => frun _ _ zz 18 [kR 8 0 0, kN k, kN 0, kX (μ.1 38 0 0 (nI k + 1).toNatClampNeg - μ.1 38 0 0 (nI k).toNatClampNeg)] [] _ 0 0) 2 (fun _ => rfl) ?_
  rw [nI_1, nI_clamp (show k + 1 < 2 ^ 31 by omega), nI_clamp (show k < 2 ^ 31 by omega), l1, l2, pk_sub (by omega), show bgL.getD (k + 1) 0 - bgL.getD k 0 = (wd k).length from by omega]
  exact R
