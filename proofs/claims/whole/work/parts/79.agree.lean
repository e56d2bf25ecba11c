/-! BOTH READERS AGREE -/
theorem isD_b {tx : Nat → Nat} {n p : Nat} : cD tx n p 1 = (if isD tx n p then 1 else 0) := by
  show (if ¬ isD tx n p then 0 else 1) = _
  by_cases h : isD tx n p
  · rw [if_neg (fun g => g h), if_pos h]
  · rw [if_pos h, if_neg h]
theorem cD_3 {tx : Nat → Nat} {n p : Nat} : 0 < cD tx n p 3 ↔ isD tx n p := by
  constructor
  · intro h
    exact cD_is (tx := tx) (n := n) (p := p) (m := 3) (d := 0) h
  · intro h
    rw [cD_pos h]
    have := nF_ge (p := fun d => ¬ isD tx n (p + d)) (j := 2) (k := 1)
    omega
theorem cD_0 {tx : Nat → Nat} {n p : Nat} : cD tx n p 0 = 0 := rfl
def FRq (tx : Nat → Nat) (n : Nat) (L : List Nat) (q : Nat × Bool) : Nat × Option (List Nat) := if q.2 = true then (q.1, none) else fmR tx n L q.1
theorem FRq_nil {tx : Nat → Nat} {n : Nat} {q : Nat × Bool} : FRq tx n [] q = (q.1, if q.2 = true then none else some []) := by
  unfold FRq
  split <;> rfl
theorem FRq_dig {tx : Nat → Nat} {n : Nat} {r : List Nat} {q : Nat × Bool} : FRq tx n (35 :: r) q = ((FRq tx n r (stD tx n q)).1, (FRq tx n r (stD tx n q)).2.map (vlD tx n q :: ·)) := by
  obtain ⟨p, w⟩ := q
  cases w with
  | true => rfl
  | false =>
    show fmR tx n (35 :: r) p = _
    by_cases h : isD tx n p
    · have s : stD tx n (p, false) = (p + 1, false) := if_pos ⟨rfl, h⟩
      have v : vlD tx n (p, false) = tx p - 48 := if_pos ⟨rfl, h⟩
      rw [s, v]
      show _ = ((fmR tx n r (p + 1)).1, (fmR tx n r (p + 1)).2.map ((tx p - 48) :: ·))
      rw [fmR, show mS 35 = 1 from rfl, isD_b, if_pos h, if_pos (by decide), show vlT tx p 1 = tx p - 48 from by simp [vlT]]
    · have s : stD tx n (p, false) = (p, true) := if_neg (fun g => h g.2)
      rw [s]
      show _ = (p, none)
      rw [fmR, show mS 35 = 1 from rfl, isD_b, if_neg h, if_neg (by decide), if_neg (fun g => absurd g.1 (by decide))]
theorem FRq_num {tx : Nat → Nat} {n : Nat} {r : List Nat} {q : Nat × Bool} : FRq tx n (42 :: r) q = ((FRq tx n r (stN tx n q)).1, (FRq tx n r (stN tx n q)).2.map (vlN tx n q :: ·)) := by
  obtain ⟨p, w⟩ := q
  cases w with
  | true => rfl
  | false =>
    show fmR tx n (42 :: r) p = _
    by_cases h : isD tx n p
    · have s : stN tx n (p, false) = (p + cD tx n p 3, false) := if_pos ⟨rfl, h⟩
      have v : vlN tx n (p, false) = vlT tx p (cD tx n p 3) := if_pos ⟨rfl, h⟩
      rw [s, v]
      show _ = ((fmR tx n r (p + cD tx n p 3)).1, (fmR tx n r (p + cD tx n p 3)).2.map (vlT tx p (cD tx n p 3) :: ·))
      rw [fmR, show mS 42 = 3 from rfl, if_pos (cD_3.mpr h)]
    · have s : stN tx n (p, false) = (p, true) := if_neg (fun g => h g.2)
      rw [s]
      show _ = (p, none)
      rw [fmR, show mS 42 = 3 from rfl, if_neg (fun g => h (cD_3.mp g)), if_neg (fun g => absurd g.1 (by decide))]
theorem FRq_lit {tx : Nat → Nat} {n c : Nat} {r : List Nat} {q : Nat × Bool} (hc : mS c = 0) : FRq tx n (c :: r) q = FRq tx n r (stE tx n c q) := by
  obtain ⟨p, w⟩ := q
  cases w with
  | true => rfl
  | false =>
    show fmR tx n (c :: r) p = _
    by_cases h : p < n ∧ tx p = c
    · have s : stE tx n c (p, false) = (p + 1, false) := if_pos ⟨rfl, h⟩
      rw [s]
      show _ = fmR tx n r (p + 1)
      rw [fmR, hc, cD_0, if_neg (by decide), if_pos ⟨rfl, h⟩]
    · have s : stE tx n c (p, false) = (p, true) := if_neg (fun g => h g.2)
      rw [s]
      show _ = (p, none)
      rw [fmR, hc, cD_0, if_neg (by decide), if_neg (fun g => h g.2)]
theorem fmR_wd {tx : Nat → Nat} {n : Nat} {r : List Nat} : ∀ {L : List Nat} {p : Nat}, (∀ s ∈ L, mS s = 0) → fmR tx n (L ++ r) p = if lkL tx n L p = L.length then fmR tx n r (p + L.length) else (p + lkL tx n L p, none)
  | [], p, _ => by
    rw [if_pos (show lkL tx n [] p = ([] : List Nat).length from rfl)]
    rfl
  | s :: L, p, h => by
    show fmR tx n (s :: (L ++ r)) p = _
    rw [fmR, h s List.mem_cons_self, cD_0, if_neg (by decide), lkL]
    by_cases g : p < n ∧ tx p = s
    · rw [if_pos ⟨rfl, g⟩, if_pos g, fmR_wd (fun s' hs' => h s' (List.mem_cons_of_mem _ hs'))]
      show _ = if 1 + lkL tx n L (p + 1) = L.length + 1 then fmR tx n r (p + (L.length + 1)) else _
      by_cases e : lkL tx n L (p + 1) = L.length
      · rw [if_pos e, if_pos (by omega), show p + 1 + L.length = p + (L.length + 1) from by omega]
      · rw [if_neg e, if_neg (by omega), show p + 1 + lkL tx n L (p + 1) = p + (1 + lkL tx n L (p + 1)) from by omega]
    · rw [if_neg (fun q => g q.2), if_neg g, if_neg (by show ¬ 0 = L.length + 1; omega)]
      rfl
theorem wd_lit : ∀ k, k < 11 → ∀ s ∈ wd k, mS s = 0 := by decide
theorem wd_apart : ∀ k, k < 11 → ∀ k', k' < 11 → k ≠ k' → ∃ i, i < (wd k).length ∧ i < (wd k').length ∧ (wd k).getD i 0 ≠ (wd k').getD i 0 := by decide +kernel
theorem lkL_at {tx : Nat → Nat} {n : Nat} : ∀ {L : List Nat} {p i : Nat}, i < lkL tx n L p → tx (p + i) = L.getD i 0
  | [], p, i, h => absurd h (Nat.not_lt_zero _)
  | s :: r, p, i, h => by
    rw [lkL] at h
    split at h
    · rename_i g
      cases i with
      | zero => exact g.2
      | succ i =>
        have := lkL_at (tx := tx) (n := n) (L := r) (p := p + 1) (i := i) (by omega)
        rw [show p + (i + 1) = p + 1 + i from by omega, this]
        rfl
    · exact absurd h (Nat.not_lt_zero _)
/-- a word that stands there whole is alone -/
theorem wd_one {tx : Nat → Nat} {n p k k' : Nat} (hk : k < 11) (hk' : k' < 11) (hne : k ≠ k') (h : lkL tx n (wd k) p = (wd k).length) : lkL tx n (wd k') p < (wd k').length ∧ lkL tx n (wd k') p < (wd k).length := by
  obtain ⟨i, h1, h2, h3⟩ := wd_apart k hk k' hk' hne
  have a := lkL_at (tx := tx) (n := n) (L := wd k) (p := p) (i := i) (by omega)
  have : lkL tx n (wd k') p ≤ i := Nat.not_lt.mp fun g => by
    have b := lkL_at (L := wd k') g
    exact h3 (a.symm.trans b)
  omega
/-- the likeliest word -/
def bW (f : Nat → Nat) (w : Nat) : Nat → Nat → Nat
  | _, 0 => w
  | k, j + 1 => bW f (if f w < f k then k else w) (k + 1) j
theorem bW_ok {f : Nat → Nat} {B : Nat} : ∀ {j k w : Nat}, k + j ≤ B → w < B → f w ≤ f (bW f w k j) ∧ (∀ i, k ≤ i → i < k + j → f i ≤ f (bW f w k j)) ∧ bW f w k j < B
  | 0, k, w, _, hw => ⟨Nat.le_refl _, fun i h1 h2 => absurd h2 (by omega), hw⟩
  | j + 1, k, w, hk, hw => by
    rw [bW]
    have ih := bW_ok (f := f) (B := B) (j := j) (k := k + 1) (w := if f w < f k then k else w) (by omega) (by split <;> omega)
    by_cases c : f w < f k
    · rw [if_pos c] at ih ⊢
      exact ⟨by omega, fun i h1 h2 => by
        by_cases e : i = k
        · subst e; exact ih.1
        · exact ih.2.1 i (by omega) (by omega), ih.2.2⟩
    · rw [if_neg c] at ih ⊢
      exact ⟨ih.1, fun i h1 h2 => by
        by_cases e : i = k
        · subst e; omega
        · exact ih.2.1 i (by omega) (by omega), ih.2.2⟩
theorem cR_some {tx : Nat → Nat} {n p w : Nat} {vs : List Nat} (hw : (fmR tx n (sgn w) p).2 = some vs) : ∀ {j k e : Nat}, k ≤ w → w < k + j → (∀ i, k ≤ i → i < w → (fmR tx n (sgn i) p).2 = none) → cR tx n p j k e = ((fmR tx n (sgn w) p).1, some (w, vs))
  | 0, k, e, h1, h2, _ => absurd h2 (by omega)
  | j + 1, k, e, h1, h2, h => by
    rw [cR]
    by_cases c : k = w
    · subst c
      rw [hw]
    · rw [h k (Nat.le_refl _) (by omega)]
      exact cR_some hw (by omega) (by omega) (fun i h3 h4 => h i (by omega) h4)
theorem cR_none {tx : Nat → Nat} {n p B : Nat} : ∀ {j k e : Nat}, (∀ i, k ≤ i → i < k + j → (fmR tx n (sgn i) p).2 = none ∧ (fmR tx n (sgn i) p).1 ≤ B) → e ≤ B → (e = B ∨ ∃ i, k ≤ i ∧ i < k + j ∧ (fmR tx n (sgn i) p).1 = B) → cR tx n p j k e = (B, none)
  | 0, k, e, _, _, h => by
    rcases h with h | ⟨i, h1, h2, _⟩
    · rw [cR, h]
    · exact absurd h2 (by omega)
  | j + 1, k, e, h, he, hB => by
    have hk := h k (Nat.le_refl _) (by omega)
    rw [cR, hk.1]
    refine cR_none (fun i h1 h2 => h i (by omega) (by omega)) (by omega) ?_
    rcases hB with hB | ⟨i, h1, h2, h3⟩
    · exact Or.inl (by omega)
    · by_cases c : i = k
      · subst c; exact Or.inl (by omega)
      · exact Or.inr ⟨i, by omega, by omega, h3⟩
/-- the model's way to the class's command -/
theorem cR_eq {tx : Nat → Nat} {n p w : Nat} (hw : w < 11) (hb : ∀ k, k < 11 → lkL tx n (wd k) p ≤ lkL tx n (wd w) p) (hp : p ≤ n) : cR tx n p 11 0 p = (if lkL tx n (wd w) p = (wd w).length then ((fmR tx n (ag w) (p + (wd w).length)).1, (fmR tx n (ag w) (p + (wd w).length)).2.map (fun vs => (w, vs))) else (p + lkL tx n (wd w) p, none)) := by
  have F : ∀ k, k < 11 → fmR tx n (sgn k) p = if lkL tx n (wd k) p = (wd k).length then fmR tx n (ag k) (p + (wd k).length) else (p + lkL tx n (wd k) p, none) := fun k hk => fmR_wd (wd_lit k hk)
  by_cases h : lkL tx n (wd w) p = (wd w).length
  · rw [if_pos h]
    have Fw := F w hw
    rw [if_pos h] at Fw
    have oth : ∀ k, k < 11 → k ≠ w → fmR tx n (sgn k) p = (p + lkL tx n (wd k) p, none) ∧ lkL tx n (wd k) p < (wd w).length := fun k hk hne => by
      have o := wd_one hw hk (Ne.symm hne) h
      rw [F k hk, if_neg (by omega)]
      exact ⟨rfl, o.2⟩
    have hl := (lkL_le (tx := tx) (n := n) (L := wd w) (p := p)).2 hp
    have ok := fmR_ok (tx := tx) (n := n) (L := ag w) (p := p + (wd w).length) (by omega)
    cases hq : (fmR tx n (ag w) (p + (wd w).length)).2 with
    | some vs =>
      rw [cR_some (w := w) (vs := vs) (by rw [Fw]; exact hq) (Nat.zero_le _) (by omega) (fun i _ h2 => by rw [(oth i (by omega) (by omega)).1]), Fw]
      rfl
    | none =>
      rw [cR_none (B := (fmR tx n (ag w) (p + (wd w).length)).1) (fun i _ h2 => ?_) (by have := ok.1; omega) (Or.inr ⟨w, Nat.zero_le _, by omega, by rw [Fw]⟩)]
      · rfl
      · by_cases e : i = w
        · subst e; rw [Fw]; exact ⟨hq, Nat.le_refl _⟩
        · have o := oth i (by omega) e
          rw [o.1]
          exact ⟨rfl, by have := ok.1; show p + lkL tx n (wd i) p ≤ _; omega⟩
  · rw [if_neg h]
    have all : ∀ k, k < 11 → ¬ lkL tx n (wd k) p = (wd k).length := fun k hk g => by
      by_cases e : k = w
      · subst e; exact h g
      · have o := wd_one hk hw e g
        have := hb k hk
        omega
    refine cR_none (fun i _ h2 => ?_) (by omega) (Or.inr ⟨w, Nat.zero_le _, by omega, ?_⟩)
    · rw [F i (by omega), if_neg (all i (by omega))]
      exact ⟨rfl, by have := hb i (by omega); show p + lkL tx n (wd i) p ≤ _; omega⟩
    · rw [F w hw, if_neg h]
/-! the model's arguments -/
theorem MTt_39 {μ : fM} {tx : Nat → Nat} {n k : Nat} {v : Int32} (H : MTt μ tx n) : MTt (fI μ 39 0 0 k v) tx n := MT_out H (fI_ne (by omega)) (fun c k hc => fI_ne (by omega))
theorem MQt_39 {μ : fM} {tx : Nat → Nat} {n k : Nat} {v : Int32} {q : Nat × Bool} (H : MQt μ tx n q) : MQt (fI μ 39 0 0 k v) tx n q := ⟨MTt_39 H.1, (fI_ne (by omega)).trans H.2.1, (fI_ne (by omega)).trans H.2.2.1, H.2.2.2⟩
def paP (to : Nat) (C _y _h k : Nat) : Prop := (C = 8 ∧ (k = 21 ∨ k = 23)) ∨ (C = 39 ∧ to ≤ k ∧ k < to + 3)
theorem pM_pa {μ : fM} {q : Nat × Bool} {to : Nat} : sX' (paP to) μ (pM μ q) := sX_mono pM_out (fun C y h k P => Or.inl P)
theorem pM_39 {μ : fM} {q : Nat × Bool} {k : Nat} : (pM μ q).1 39 0 0 k = μ.1 39 0 0 k := (fI_ne (by omega)).trans (fI_ne (by omega))
theorem isNone_if {b : Bool} {l : List Nat} : (if b = true then (none : Option (List Nat)) else some l).isNone = b := by cases b <;> rfl
def raRes (w to : Nat) (tx : Nat → Nat) (n : Nat) (q : Nat × Bool) (ν ν' : fM) : Prop := MQt ν' tx n ((FRq tx n (ag w) q).1, (FRq tx n (ag w) q).2.isNone) ∧ (∀ vs, (FRq tx n (ag w) q).2 = some vs → ∀ i v, vs[i]? = some v → ν'.1 39 0 0 (to + i) = nI v) ∧ sX' (paP to) ν ν'
theorem g_ra0 {ν : fM} {tx : Nat → Nat} {n to : Nat} {q : Nat × Bool} (H : MQt ν tx n q) (ht : to + 3 ≤ 244) : ∃ ν', sX8_readArguments [vR 8 0 0, vI (nI 0), vI (nI to)] ν = some (.inl none, ν') ∧ raRes 0 to tx n q ν ν' := by
  have e0 : (nI to).toNatClampNeg = to := nI_clamp (by omega)
  have e1 : (nI to + 1).toNatClampNeg = to + 1 := by rw [nI_1, nI_clamp (by omega)]
  have e2 : (nI to + 2).toNatClampNeg = to + 2 := by rw [fLit, nI_add, nI_clamp (by show to + 2 < 2 ^ 31; omega)]
  refine ⟨fI ν 39 0 0 to 0, fsemV_of (Nat.le_of_ble_eq_true rfl) ?_, ?_, ?_, sX_fI (Or.inr ⟨rfl, Nat.le_refl _, by omega⟩)⟩
  · skip
    refine fE_pos (by refine g_in (k := to) ?_ (show to < 244 from by omega) (show 244 < 2 ^ 31 from by decide); first | rfl | (simp (disch := omega) only [fLit, nI_add, pk_mul, pk_rem, pk_sub, nI_clamp]; done)) 8 (fun _ => rfl) ?_
    refine fE_step (y := fun zz => frun _ _ zz 43 [kR 8 0 0, kN 0, kN to] [] (fI ν 39 0 0 (nI to).toNatClampNeg 0) 0 0) 0 (fun _ => rfl) ?_
    rw [e0]
    exact fE_ret 3 (fun _ => rfl)
  · rw [show ag 0 = [] from rfl, FRq_nil, isNone_if]
    exact MQt_39 H
  · intro vs hvs i v hv
    rw [show ag 0 = [] from rfl, FRq_nil] at hvs
    change (if q.2 = true then none else some []) = some vs at hvs
    split at hvs
    · cases hvs
    · cases hvs; cases hv
theorem g_ra1 {ν : fM} {tx : Nat → Nat} {n to : Nat} {q : Nat × Bool} (H : MQt ν tx n q) (ht : to + 3 ≤ 244) : ∃ ν', sX8_readArguments [vR 8 0 0, vI (nI 1), vI (nI to)] ν = some (.inl none, ν') ∧ raRes 1 to tx n q ν ν' := by
  have e0 : (nI to).toNatClampNeg = to := nI_clamp (by omega)
  have e1 : (nI to + 1).toNatClampNeg = to + 1 := by rw [nI_1, nI_clamp (by omega)]
  have e2 : (nI to + 2).toNatClampNeg = to + 2 := by rw [fLit, nI_add, nI_clamp (by show to + 2 < 2 ^ 31; omega)]
  have c0 := g_digit H
  have H0 : MQt (fI (pM ν (stD tx n q)) 39 0 0 to (nI (vlD tx n q))) tx n (stD tx n q) := MQt_39 (MQt_pM H.1 (stD_le H.2.2.2))
  have c1 := g_numberBehind (c := 32) H0 (by omega)
  have H1 : MQt (fI (pM (fI (pM ν (stD tx n q)) 39 0 0 to (nI (vlD tx n q))) (stN tx n (stE tx n 32 (stD tx n q)))) 39 0 0 (to + 1) (nI (vlN tx n (stE tx n 32 (stD tx n q))))) tx n (stN tx n (stE tx n 32 (stD tx n q))) := MQt_39 (MQt_pM H0.1 (stN_le (stE_le H0.2.2.2)))
  have c2 := g_numberBehind (c := 47) H1 (by omega)
  have H2 : MQt (fI (pM (fI (pM (fI (pM ν (stD tx n q)) 39 0 0 to (nI (vlD tx n q))) (stN tx n (stE tx n 32 (stD tx n q)))) 39 0 0 (to + 1) (nI (vlN tx n (stE tx n 32 (stD tx n q))))) (stN tx n (stE tx n 47 (stN tx n (stE tx n 32 (stD tx n q)))))) 39 0 0 (to + 2) (nI (vlN tx n (stE tx n 47 (stN tx n (stE tx n 32 (stD tx n q))))))) tx n (stN tx n (stE tx n 47 (stN tx n (stE tx n 32 (stD tx n q))))) := MQt_39 (MQt_pM H1.1 (stN_le (stE_le H1.2.2.2)))
  have F : FRq tx n (ag 1) q = ((stN tx n (stE tx n 47 (stN tx n (stE tx n 32 (stD tx n q))))).1, if (stN tx n (stE tx n 47 (stN tx n (stE tx n 32 (stD tx n q))))).2 = true then none else some [vlD tx n q, vlN tx n (stE tx n 32 (stD tx n q)), vlN tx n (stE tx n 47 (stN tx n (stE tx n 32 (stD tx n q))))]) := by
    rw [show ag 1 = [35, 32, 42, 47, 42] from rfl, FRq_dig, FRq_lit (by decide), FRq_num, FRq_lit (by decide), FRq_num, FRq_nil]
    cases (stN tx n (stE tx n 47 (stN tx n (stE tx n 32 (stD tx n q))))).2 <;> rfl
  refine ⟨(fI (pM (fI (pM (fI (pM ν (stD tx n q)) 39 0 0 to (nI (vlD tx n q))) (stN tx n (stE tx n 32 (stD tx n q)))) 39 0 0 (to + 1) (nI (vlN tx n (stE tx n 32 (stD tx n q))))) (stN tx n (stE tx n 47 (stN tx n (stE tx n 32 (stD tx n q)))))) 39 0 0 (to + 2) (nI (vlN tx n (stE tx n 47 (stN tx n (stE tx n 32 (stD tx n q))))))), fsemV_of (Nat.le_of_ble_eq_true rfl) ?_, ?_, ?_, sX_trans (sX_trans (sX_trans (sX_trans (sX_trans pM_pa (sX_fI (Or.inr ⟨rfl, by omega, by omega⟩))) pM_pa) (sX_fI (Or.inr ⟨rfl, by omega, by omega⟩))) pM_pa) (sX_fI (Or.inr ⟨rfl, by omega, by omega⟩))⟩
  · skip
    refine fE_call (c0) 16 (fun _ => rfl) ?_
    refine fE_pos (by refine g_in (k := to) ?_ (show to < 244 from by omega) (show 244 < 2 ^ 31 from by decide); first | rfl | (simp (disch := omega) only [fLit, nI_add, pk_mul, pk_rem, pk_sub, nI_clamp]; done)) 1 (fun _ => rfl) ?_
    refine fE_step (y := fun zz => frun _ _ zz 43 [kR 8 0 0, kN 1, kN to] [] (fI (pM ν (stD tx n q)) 39 0 0 (nI to).toNatClampNeg (nI (vlD tx n q))) 0 0) 0 (fun _ => rfl) ?_
    rw [e0]
    refine fE_call (c1) 10 (fun _ => rfl) ?_
    refine fE_pos (by refine g_in (k := to + 1) ?_ (show to + 1 < 244 from by omega) (show 244 < 2 ^ 31 from by decide); first | rfl | (simp (disch := omega) only [fLit, nI_add, pk_mul, pk_rem, pk_sub, nI_clamp]; done)) 1 (fun _ => rfl) ?_
    refine fE_step (y := fun zz => frun _ _ zz 114 [kR 8 0 0, kN 1, kN to] [] (fI (pM (fI (pM ν (stD tx n q)) 39 0 0 to (nI (vlD tx n q))) (stN tx n (stE tx n 32 (stD tx n q)))) 39 0 0 (nI to + 1).toNatClampNeg (nI (vlN tx n (stE tx n 32 (stD tx n q))))) 0 0) 0 (fun _ => rfl) ?_
    rw [e1]
    refine fE_call (c2) 8 (fun _ => rfl) ?_
    refine fE_pos (by refine g_in (k := to + 2) ?_ (show to + 2 < 244 from by omega) (show 244 < 2 ^ 31 from by decide); first | rfl | (simp (disch := omega) only [fLit, nI_add, pk_mul, pk_rem, pk_sub, nI_clamp]; done)) 1 (fun _ => rfl) ?_
    refine fE_step (y := fun zz => frun _ _ zz 128 [kR 8 0 0, kN 1, kN to] [] (fI (pM (fI (pM (fI (pM ν (stD tx n q)) 39 0 0 to (nI (vlD tx n q))) (stN tx n (stE tx n 32 (stD tx n q)))) 39 0 0 (to + 1) (nI (vlN tx n (stE tx n 32 (stD tx n q))))) (stN tx n (stE tx n 47 (stN tx n (stE tx n 32 (stD tx n q)))))) 39 0 0 (nI to + 2).toNatClampNeg (nI (vlN tx n (stE tx n 47 (stN tx n (stE tx n 32 (stD tx n q))))))) 0 0) 0 (fun _ => rfl) ?_
    rw [e2]
    exact fE_ret 2 (fun _ => rfl)
  · rw [F, isNone_if]
    exact H2
  · intro vs hvs i v hv
    rw [F] at hvs
    change (if (stN tx n (stE tx n 47 (stN tx n (stE tx n 32 (stD tx n q))))).2 = true then none else some [vlD tx n q, vlN tx n (stE tx n 32 (stD tx n q)), vlN tx n (stE tx n 47 (stN tx n (stE tx n 32 (stD tx n q))))]) = some vs at hvs
    split at hvs
    · cases hvs
    · cases hvs
      match i, hv with
      | 0, hv => cases hv; exact (fI_ne (by omega)).trans (pM_39.trans ((fI_ne (by omega)).trans (pM_39.trans (fI_at))))
      | 1, hv => cases hv; exact (fI_ne (by omega)).trans (pM_39.trans (fI_at))
      | 2, hv => cases hv; exact fI_at
      | i + 3, hv => cases hv
theorem g_ra2 {ν : fM} {tx : Nat → Nat} {n to : Nat} {q : Nat × Bool} (H : MQt ν tx n q) (ht : to + 3 ≤ 244) : ∃ ν', sX8_readArguments [vR 8 0 0, vI (nI 2), vI (nI to)] ν = some (.inl none, ν') ∧ raRes 2 to tx n q ν ν' := by
  have e0 : (nI to).toNatClampNeg = to := nI_clamp (by omega)
  have e1 : (nI to + 1).toNatClampNeg = to + 1 := by rw [nI_1, nI_clamp (by omega)]
  have e2 : (nI to + 2).toNatClampNeg = to + 2 := by rw [fLit, nI_add, nI_clamp (by show to + 2 < 2 ^ 31; omega)]
  have c0 := g_digit H
  have H0 : MQt (fI (pM ν (stD tx n q)) 39 0 0 to (nI (vlD tx n q))) tx n (stD tx n q) := MQt_39 (MQt_pM H.1 (stD_le H.2.2.2))
  have F : FRq tx n (ag 2) q = ((stD tx n q).1, if (stD tx n q).2 = true then none else some [vlD tx n q]) := by
    rw [show ag 2 = [35] from rfl, FRq_dig, FRq_nil]
    cases (stD tx n q).2 <;> rfl
  refine ⟨(fI (pM ν (stD tx n q)) 39 0 0 to (nI (vlD tx n q))), fsemV_of (Nat.le_of_ble_eq_true rfl) ?_, ?_, ?_, sX_trans pM_pa (sX_fI (Or.inr ⟨rfl, by omega, by omega⟩))⟩
  · skip
    refine fE_call (c0) 16 (fun _ => rfl) ?_
    refine fE_pos (by refine g_in (k := to) ?_ (show to < 244 from by omega) (show 244 < 2 ^ 31 from by decide); first | rfl | (simp (disch := omega) only [fLit, nI_add, pk_mul, pk_rem, pk_sub, nI_clamp]; done)) 1 (fun _ => rfl) ?_
    refine fE_step (y := fun zz => frun _ _ zz 43 [kR 8 0 0, kN 2, kN to] [] (fI (pM ν (stD tx n q)) 39 0 0 (nI to).toNatClampNeg (nI (vlD tx n q))) 0 0) 0 (fun _ => rfl) ?_
    rw [e0]
    exact fE_ret 3 (fun _ => rfl)
  · rw [F, isNone_if]
    exact H0
  · intro vs hvs i v hv
    rw [F] at hvs
    change (if (stD tx n q).2 = true then none else some [vlD tx n q]) = some vs at hvs
    split at hvs
    · cases hvs
    · cases hvs
      match i, hv with
      | 0, hv => cases hv; exact fI_at
      | i + 1, hv => cases hv
theorem g_ra3 {ν : fM} {tx : Nat → Nat} {n to : Nat} {q : Nat × Bool} (H : MQt ν tx n q) (ht : to + 3 ≤ 244) : ∃ ν', sX8_readArguments [vR 8 0 0, vI (nI 3), vI (nI to)] ν = some (.inl none, ν') ∧ raRes 3 to tx n q ν ν' := by
  have e0 : (nI to).toNatClampNeg = to := nI_clamp (by omega)
  have e1 : (nI to + 1).toNatClampNeg = to + 1 := by rw [nI_1, nI_clamp (by omega)]
  have e2 : (nI to + 2).toNatClampNeg = to + 2 := by rw [fLit, nI_add, nI_clamp (by show to + 2 < 2 ^ 31; omega)]
  have c0 := g_digit H
  have H0 : MQt (fI (pM ν (stD tx n q)) 39 0 0 to (nI (vlD tx n q))) tx n (stD tx n q) := MQt_39 (MQt_pM H.1 (stD_le H.2.2.2))
  have c1 := g_numberBehind (c := 32) H0 (by omega)
  have H1 : MQt (fI (pM (fI (pM ν (stD tx n q)) 39 0 0 to (nI (vlD tx n q))) (stN tx n (stE tx n 32 (stD tx n q)))) 39 0 0 (to + 1) (nI (vlN tx n (stE tx n 32 (stD tx n q))))) tx n (stN tx n (stE tx n 32 (stD tx n q))) := MQt_39 (MQt_pM H0.1 (stN_le (stE_le H0.2.2.2)))
  have F : FRq tx n (ag 3) q = ((stN tx n (stE tx n 32 (stD tx n q))).1, if (stN tx n (stE tx n 32 (stD tx n q))).2 = true then none else some [vlD tx n q, vlN tx n (stE tx n 32 (stD tx n q))]) := by
    rw [show ag 3 = [35, 32, 42] from rfl, FRq_dig, FRq_lit (by decide), FRq_num, FRq_nil]
    cases (stN tx n (stE tx n 32 (stD tx n q))).2 <;> rfl
  refine ⟨(fI (pM (fI (pM ν (stD tx n q)) 39 0 0 to (nI (vlD tx n q))) (stN tx n (stE tx n 32 (stD tx n q)))) 39 0 0 (to + 1) (nI (vlN tx n (stE tx n 32 (stD tx n q))))), fsemV_of (Nat.le_of_ble_eq_true rfl) ?_, ?_, ?_, sX_trans (sX_trans (sX_trans pM_pa (sX_fI (Or.inr ⟨rfl, by omega, by omega⟩))) pM_pa) (sX_fI (Or.inr ⟨rfl, by omega, by omega⟩))⟩
  · skip
    refine fE_call (c0) 16 (fun _ => rfl) ?_
    refine fE_pos (by refine g_in (k := to) ?_ (show to < 244 from by omega) (show 244 < 2 ^ 31 from by decide); first | rfl | (simp (disch := omega) only [fLit, nI_add, pk_mul, pk_rem, pk_sub, nI_clamp]; done)) 1 (fun _ => rfl) ?_
    refine fE_step (y := fun zz => frun _ _ zz 43 [kR 8 0 0, kN 3, kN to] [] (fI (pM ν (stD tx n q)) 39 0 0 (nI to).toNatClampNeg (nI (vlD tx n q))) 0 0) 0 (fun _ => rfl) ?_
    rw [e0]
    refine fE_call (c1) 10 (fun _ => rfl) ?_
    refine fE_pos (by refine g_in (k := to + 1) ?_ (show to + 1 < 244 from by omega) (show 244 < 2 ^ 31 from by decide); first | rfl | (simp (disch := omega) only [fLit, nI_add, pk_mul, pk_rem, pk_sub, nI_clamp]; done)) 1 (fun _ => rfl) ?_
    refine fE_step (y := fun zz => frun _ _ zz 145 [kR 8 0 0, kN 3, kN to] [] (fI (pM (fI (pM ν (stD tx n q)) 39 0 0 to (nI (vlD tx n q))) (stN tx n (stE tx n 32 (stD tx n q)))) 39 0 0 (nI to + 1).toNatClampNeg (nI (vlN tx n (stE tx n 32 (stD tx n q))))) 0 0) 0 (fun _ => rfl) ?_
    rw [e1]
    exact fE_ret 2 (fun _ => rfl)
  · rw [F, isNone_if]
    exact H1
  · intro vs hvs i v hv
    rw [F] at hvs
    change (if (stN tx n (stE tx n 32 (stD tx n q))).2 = true then none else some [vlD tx n q, vlN tx n (stE tx n 32 (stD tx n q))]) = some vs at hvs
    split at hvs
    · cases hvs
    · cases hvs
      match i, hv with
      | 0, hv => cases hv; exact (fI_ne (by omega)).trans (pM_39.trans (fI_at))
      | 1, hv => cases hv; exact fI_at
      | i + 2, hv => cases hv
theorem g_ra4 {ν : fM} {tx : Nat → Nat} {n to : Nat} {q : Nat × Bool} (H : MQt ν tx n q) (ht : to + 3 ≤ 244) : ∃ ν', sX8_readArguments [vR 8 0 0, vI (nI 4), vI (nI to)] ν = some (.inl none, ν') ∧ raRes 4 to tx n q ν ν' := by
  have e0 : (nI to).toNatClampNeg = to := nI_clamp (by omega)
  have e1 : (nI to + 1).toNatClampNeg = to + 1 := by rw [nI_1, nI_clamp (by omega)]
  have e2 : (nI to + 2).toNatClampNeg = to + 2 := by rw [fLit, nI_add, nI_clamp (by show to + 2 < 2 ^ 31; omega)]
  have c0 := g_digit H
  have H0 : MQt (fI (pM ν (stD tx n q)) 39 0 0 to (nI (vlD tx n q))) tx n (stD tx n q) := MQt_39 (MQt_pM H.1 (stD_le H.2.2.2))
  have F : FRq tx n (ag 4) q = ((stD tx n q).1, if (stD tx n q).2 = true then none else some [vlD tx n q]) := by
    rw [show ag 4 = [35] from rfl, FRq_dig, FRq_nil]
    cases (stD tx n q).2 <;> rfl
  refine ⟨(fI (pM ν (stD tx n q)) 39 0 0 to (nI (vlD tx n q))), fsemV_of (Nat.le_of_ble_eq_true rfl) ?_, ?_, ?_, sX_trans pM_pa (sX_fI (Or.inr ⟨rfl, by omega, by omega⟩))⟩
  · skip
    refine fE_call (c0) 16 (fun _ => rfl) ?_
    refine fE_pos (by refine g_in (k := to) ?_ (show to < 244 from by omega) (show 244 < 2 ^ 31 from by decide); first | rfl | (simp (disch := omega) only [fLit, nI_add, pk_mul, pk_rem, pk_sub, nI_clamp]; done)) 1 (fun _ => rfl) ?_
    refine fE_step (y := fun zz => frun _ _ zz 43 [kR 8 0 0, kN 4, kN to] [] (fI (pM ν (stD tx n q)) 39 0 0 (nI to).toNatClampNeg (nI (vlD tx n q))) 0 0) 0 (fun _ => rfl) ?_
    rw [e0]
    exact fE_ret 3 (fun _ => rfl)
  · rw [F, isNone_if]
    exact H0
  · intro vs hvs i v hv
    rw [F] at hvs
    change (if (stD tx n q).2 = true then none else some [vlD tx n q]) = some vs at hvs
    split at hvs
    · cases hvs
    · cases hvs
      match i, hv with
      | 0, hv => cases hv; exact fI_at
      | i + 1, hv => cases hv
theorem g_ra5 {ν : fM} {tx : Nat → Nat} {n to : Nat} {q : Nat × Bool} (H : MQt ν tx n q) (ht : to + 3 ≤ 244) : ∃ ν', sX8_readArguments [vR 8 0 0, vI (nI 5), vI (nI to)] ν = some (.inl none, ν') ∧ raRes 5 to tx n q ν ν' := by
  have e0 : (nI to).toNatClampNeg = to := nI_clamp (by omega)
  have e1 : (nI to + 1).toNatClampNeg = to + 1 := by rw [nI_1, nI_clamp (by omega)]
  have e2 : (nI to + 2).toNatClampNeg = to + 2 := by rw [fLit, nI_add, nI_clamp (by show to + 2 < 2 ^ 31; omega)]
  have c0 := g_digit H
  have H0 : MQt (fI (pM ν (stD tx n q)) 39 0 0 to (nI (vlD tx n q))) tx n (stD tx n q) := MQt_39 (MQt_pM H.1 (stD_le H.2.2.2))
  have c1 := g_digitBehind H0
  have H1 : MQt (fI (pM (fI (pM ν (stD tx n q)) 39 0 0 to (nI (vlD tx n q))) (stD tx n (stE tx n 32 (stD tx n q)))) 39 0 0 (to + 1) (nI (vlD tx n (stE tx n 32 (stD tx n q))))) tx n (stD tx n (stE tx n 32 (stD tx n q))) := MQt_39 (MQt_pM H0.1 (stD_le (stE_le H0.2.2.2)))
  have F : FRq tx n (ag 5) q = ((stD tx n (stE tx n 32 (stD tx n q))).1, if (stD tx n (stE tx n 32 (stD tx n q))).2 = true then none else some [vlD tx n q, vlD tx n (stE tx n 32 (stD tx n q))]) := by
    rw [show ag 5 = [35, 32, 35] from rfl, FRq_dig, FRq_lit (by decide), FRq_dig, FRq_nil]
    cases (stD tx n (stE tx n 32 (stD tx n q))).2 <;> rfl
  refine ⟨(fI (pM (fI (pM ν (stD tx n q)) 39 0 0 to (nI (vlD tx n q))) (stD tx n (stE tx n 32 (stD tx n q)))) 39 0 0 (to + 1) (nI (vlD tx n (stE tx n 32 (stD tx n q))))), fsemV_of (Nat.le_of_ble_eq_true rfl) ?_, ?_, ?_, sX_trans (sX_trans (sX_trans pM_pa (sX_fI (Or.inr ⟨rfl, by omega, by omega⟩))) pM_pa) (sX_fI (Or.inr ⟨rfl, by omega, by omega⟩))⟩
  · skip
    refine fE_call (c0) 16 (fun _ => rfl) ?_
    refine fE_pos (by refine g_in (k := to) ?_ (show to < 244 from by omega) (show 244 < 2 ^ 31 from by decide); first | rfl | (simp (disch := omega) only [fLit, nI_add, pk_mul, pk_rem, pk_sub, nI_clamp]; done)) 1 (fun _ => rfl) ?_
    refine fE_step (y := fun zz => frun _ _ zz 43 [kR 8 0 0, kN 5, kN to] [] (fI (pM ν (stD tx n q)) 39 0 0 (nI to).toNatClampNeg (nI (vlD tx n q))) 0 0) 0 (fun _ => rfl) ?_
    rw [e0]
    refine fE_call (c1) 9 (fun _ => rfl) ?_
    refine fE_pos (by refine g_in (k := to + 1) ?_ (show to + 1 < 244 from by omega) (show 244 < 2 ^ 31 from by decide); first | rfl | (simp (disch := omega) only [fLit, nI_add, pk_mul, pk_rem, pk_sub, nI_clamp]; done)) 1 (fun _ => rfl) ?_
    refine fE_step (y := fun zz => frun _ _ zz 160 [kR 8 0 0, kN 5, kN to] [] (fI (pM (fI (pM ν (stD tx n q)) 39 0 0 to (nI (vlD tx n q))) (stD tx n (stE tx n 32 (stD tx n q)))) 39 0 0 (nI to + 1).toNatClampNeg (nI (vlD tx n (stE tx n 32 (stD tx n q))))) 0 0) 0 (fun _ => rfl) ?_
    rw [e1]
    exact fE_ret 2 (fun _ => rfl)
  · rw [F, isNone_if]
    exact H1
  · intro vs hvs i v hv
    rw [F] at hvs
    change (if (stD tx n (stE tx n 32 (stD tx n q))).2 = true then none else some [vlD tx n q, vlD tx n (stE tx n 32 (stD tx n q))]) = some vs at hvs
    split at hvs
    · cases hvs
    · cases hvs
      match i, hv with
      | 0, hv => cases hv; exact (fI_ne (by omega)).trans (pM_39.trans (fI_at))
      | 1, hv => cases hv; exact fI_at
      | i + 2, hv => cases hv
theorem g_ra6 {ν : fM} {tx : Nat → Nat} {n to : Nat} {q : Nat × Bool} (H : MQt ν tx n q) (ht : to + 3 ≤ 244) : ∃ ν', sX8_readArguments [vR 8 0 0, vI (nI 6), vI (nI to)] ν = some (.inl none, ν') ∧ raRes 6 to tx n q ν ν' := by
  have e0 : (nI to).toNatClampNeg = to := nI_clamp (by omega)
  have e1 : (nI to + 1).toNatClampNeg = to + 1 := by rw [nI_1, nI_clamp (by omega)]
  have e2 : (nI to + 2).toNatClampNeg = to + 2 := by rw [fLit, nI_add, nI_clamp (by show to + 2 < 2 ^ 31; omega)]
  have c0 := g_digit H
  have H0 : MQt (fI (pM ν (stD tx n q)) 39 0 0 to (nI (vlD tx n q))) tx n (stD tx n q) := MQt_39 (MQt_pM H.1 (stD_le H.2.2.2))
  have c1 := g_numberBehind (c := 32) H0 (by omega)
  have H1 : MQt (fI (pM (fI (pM ν (stD tx n q)) 39 0 0 to (nI (vlD tx n q))) (stN tx n (stE tx n 32 (stD tx n q)))) 39 0 0 (to + 1) (nI (vlN tx n (stE tx n 32 (stD tx n q))))) tx n (stN tx n (stE tx n 32 (stD tx n q))) := MQt_39 (MQt_pM H0.1 (stN_le (stE_le H0.2.2.2)))
  have F : FRq tx n (ag 6) q = ((stN tx n (stE tx n 32 (stD tx n q))).1, if (stN tx n (stE tx n 32 (stD tx n q))).2 = true then none else some [vlD tx n q, vlN tx n (stE tx n 32 (stD tx n q))]) := by
    rw [show ag 6 = [35, 32, 42] from rfl, FRq_dig, FRq_lit (by decide), FRq_num, FRq_nil]
    cases (stN tx n (stE tx n 32 (stD tx n q))).2 <;> rfl
  refine ⟨(fI (pM (fI (pM ν (stD tx n q)) 39 0 0 to (nI (vlD tx n q))) (stN tx n (stE tx n 32 (stD tx n q)))) 39 0 0 (to + 1) (nI (vlN tx n (stE tx n 32 (stD tx n q))))), fsemV_of (Nat.le_of_ble_eq_true rfl) ?_, ?_, ?_, sX_trans (sX_trans (sX_trans pM_pa (sX_fI (Or.inr ⟨rfl, by omega, by omega⟩))) pM_pa) (sX_fI (Or.inr ⟨rfl, by omega, by omega⟩))⟩
  · skip
    refine fE_call (c0) 16 (fun _ => rfl) ?_
    refine fE_pos (by refine g_in (k := to) ?_ (show to < 244 from by omega) (show 244 < 2 ^ 31 from by decide); first | rfl | (simp (disch := omega) only [fLit, nI_add, pk_mul, pk_rem, pk_sub, nI_clamp]; done)) 1 (fun _ => rfl) ?_
    refine fE_step (y := fun zz => frun _ _ zz 43 [kR 8 0 0, kN 6, kN to] [] (fI (pM ν (stD tx n q)) 39 0 0 (nI to).toNatClampNeg (nI (vlD tx n q))) 0 0) 0 (fun _ => rfl) ?_
    rw [e0]
    refine fE_call (c1) 10 (fun _ => rfl) ?_
    refine fE_pos (by refine g_in (k := to + 1) ?_ (show to + 1 < 244 from by omega) (show 244 < 2 ^ 31 from by decide); first | rfl | (simp (disch := omega) only [fLit, nI_add, pk_mul, pk_rem, pk_sub, nI_clamp]; done)) 1 (fun _ => rfl) ?_
    refine fE_step (y := fun zz => frun _ _ zz 145 [kR 8 0 0, kN 6, kN to] [] (fI (pM (fI (pM ν (stD tx n q)) 39 0 0 to (nI (vlD tx n q))) (stN tx n (stE tx n 32 (stD tx n q)))) 39 0 0 (nI to + 1).toNatClampNeg (nI (vlN tx n (stE tx n 32 (stD tx n q))))) 0 0) 0 (fun _ => rfl) ?_
    rw [e1]
    exact fE_ret 2 (fun _ => rfl)
  · rw [F, isNone_if]
    exact H1
  · intro vs hvs i v hv
    rw [F] at hvs
    change (if (stN tx n (stE tx n 32 (stD tx n q))).2 = true then none else some [vlD tx n q, vlN tx n (stE tx n 32 (stD tx n q))]) = some vs at hvs
    split at hvs
    · cases hvs
    · cases hvs
      match i, hv with
      | 0, hv => cases hv; exact (fI_ne (by omega)).trans (pM_39.trans (fI_at))
      | 1, hv => cases hv; exact fI_at
      | i + 2, hv => cases hv
theorem g_ra7 {ν : fM} {tx : Nat → Nat} {n to : Nat} {q : Nat × Bool} (H : MQt ν tx n q) (ht : to + 3 ≤ 244) : ∃ ν', sX8_readArguments [vR 8 0 0, vI (nI 7), vI (nI to)] ν = some (.inl none, ν') ∧ raRes 7 to tx n q ν ν' := by
  have e0 : (nI to).toNatClampNeg = to := nI_clamp (by omega)
  have e1 : (nI to + 1).toNatClampNeg = to + 1 := by rw [nI_1, nI_clamp (by omega)]
  have e2 : (nI to + 2).toNatClampNeg = to + 2 := by rw [fLit, nI_add, nI_clamp (by show to + 2 < 2 ^ 31; omega)]
  have c0 := g_number H
  have H0 : MQt (fI (pM ν (stN tx n q)) 39 0 0 to (nI (vlN tx n q))) tx n (stN tx n q) := MQt_39 (MQt_pM H.1 (stN_le H.2.2.2))
  have F : FRq tx n (ag 7) q = ((stN tx n q).1, if (stN tx n q).2 = true then none else some [vlN tx n q]) := by
    rw [show ag 7 = [42] from rfl, FRq_num, FRq_nil]
    cases (stN tx n q).2 <;> rfl
  refine ⟨(fI (pM ν (stN tx n q)) 39 0 0 to (nI (vlN tx n q))), fsemV_of (Nat.le_of_ble_eq_true rfl) ?_, ?_, ?_, sX_trans pM_pa (sX_fI (Or.inr ⟨rfl, by omega, by omega⟩))⟩
  · skip
    refine fE_call (c0) 10 (fun _ => rfl) ?_
    refine fE_pos (by refine g_in (k := to) ?_ (show to < 244 from by omega) (show 244 < 2 ^ 31 from by decide); first | rfl | (simp (disch := omega) only [fLit, nI_add, pk_mul, pk_rem, pk_sub, nI_clamp]; done)) 2 (fun _ => rfl) ?_
    refine fE_step (y := fun zz => frun _ _ zz 43 [kR 8 0 0, kN 7, kN to] [] (fI (pM ν (stN tx n q)) 39 0 0 (nI to).toNatClampNeg (nI (vlN tx n q))) 0 0) 0 (fun _ => rfl) ?_
    rw [e0]
    exact fE_ret 3 (fun _ => rfl)
  · rw [F, isNone_if]
    exact H0
  · intro vs hvs i v hv
    rw [F] at hvs
    change (if (stN tx n q).2 = true then none else some [vlN tx n q]) = some vs at hvs
    split at hvs
    · cases hvs
    · cases hvs
      match i, hv with
      | 0, hv => cases hv; exact fI_at
      | i + 1, hv => cases hv
theorem g_ra8 {ν : fM} {tx : Nat → Nat} {n to : Nat} {q : Nat × Bool} (H : MQt ν tx n q) (ht : to + 3 ≤ 244) : ∃ ν', sX8_readArguments [vR 8 0 0, vI (nI 8), vI (nI to)] ν = some (.inl none, ν') ∧ raRes 8 to tx n q ν ν' := by
  have e0 : (nI to).toNatClampNeg = to := nI_clamp (by omega)
  have e1 : (nI to + 1).toNatClampNeg = to + 1 := by rw [nI_1, nI_clamp (by omega)]
  have e2 : (nI to + 2).toNatClampNeg = to + 2 := by rw [fLit, nI_add, nI_clamp (by show to + 2 < 2 ^ 31; omega)]
  have c0 := g_number H
  have H0 : MQt (fI (pM ν (stN tx n q)) 39 0 0 to (nI (vlN tx n q))) tx n (stN tx n q) := MQt_39 (MQt_pM H.1 (stN_le H.2.2.2))
  have c1 := g_numberBehind (c := 32) H0 (by omega)
  have H1 : MQt (fI (pM (fI (pM ν (stN tx n q)) 39 0 0 to (nI (vlN tx n q))) (stN tx n (stE tx n 32 (stN tx n q)))) 39 0 0 (to + 1) (nI (vlN tx n (stE tx n 32 (stN tx n q))))) tx n (stN tx n (stE tx n 32 (stN tx n q))) := MQt_39 (MQt_pM H0.1 (stN_le (stE_le H0.2.2.2)))
  have F : FRq tx n (ag 8) q = ((stN tx n (stE tx n 32 (stN tx n q))).1, if (stN tx n (stE tx n 32 (stN tx n q))).2 = true then none else some [vlN tx n q, vlN tx n (stE tx n 32 (stN tx n q))]) := by
    rw [show ag 8 = [42, 32, 42] from rfl, FRq_num, FRq_lit (by decide), FRq_num, FRq_nil]
    cases (stN tx n (stE tx n 32 (stN tx n q))).2 <;> rfl
  refine ⟨(fI (pM (fI (pM ν (stN tx n q)) 39 0 0 to (nI (vlN tx n q))) (stN tx n (stE tx n 32 (stN tx n q)))) 39 0 0 (to + 1) (nI (vlN tx n (stE tx n 32 (stN tx n q))))), fsemV_of (Nat.le_of_ble_eq_true rfl) ?_, ?_, ?_, sX_trans (sX_trans (sX_trans pM_pa (sX_fI (Or.inr ⟨rfl, by omega, by omega⟩))) pM_pa) (sX_fI (Or.inr ⟨rfl, by omega, by omega⟩))⟩
  · skip
    refine fE_call (c0) 13 (fun _ => rfl) ?_
    refine fE_pos (by refine g_in (k := to) ?_ (show to < 244 from by omega) (show 244 < 2 ^ 31 from by decide); first | rfl | (simp (disch := omega) only [fLit, nI_add, pk_mul, pk_rem, pk_sub, nI_clamp]; done)) 2 (fun _ => rfl) ?_
    refine fE_step (y := fun zz => frun _ _ zz 43 [kR 8 0 0, kN 8, kN to] [] (fI (pM ν (stN tx n q)) 39 0 0 (nI to).toNatClampNeg (nI (vlN tx n q))) 0 0) 0 (fun _ => rfl) ?_
    rw [e0]
    refine fE_call (c1) 10 (fun _ => rfl) ?_
    refine fE_pos (by refine g_in (k := to + 1) ?_ (show to + 1 < 244 from by omega) (show 244 < 2 ^ 31 from by decide); first | rfl | (simp (disch := omega) only [fLit, nI_add, pk_mul, pk_rem, pk_sub, nI_clamp]; done)) 1 (fun _ => rfl) ?_
    refine fE_step (y := fun zz => frun _ _ zz 145 [kR 8 0 0, kN 8, kN to] [] (fI (pM (fI (pM ν (stN tx n q)) 39 0 0 to (nI (vlN tx n q))) (stN tx n (stE tx n 32 (stN tx n q)))) 39 0 0 (nI to + 1).toNatClampNeg (nI (vlN tx n (stE tx n 32 (stN tx n q))))) 0 0) 0 (fun _ => rfl) ?_
    rw [e1]
    exact fE_ret 2 (fun _ => rfl)
  · rw [F, isNone_if]
    exact H1
  · intro vs hvs i v hv
    rw [F] at hvs
    change (if (stN tx n (stE tx n 32 (stN tx n q))).2 = true then none else some [vlN tx n q, vlN tx n (stE tx n 32 (stN tx n q))]) = some vs at hvs
    split at hvs
    · cases hvs
    · cases hvs
      match i, hv with
      | 0, hv => cases hv; exact (fI_ne (by omega)).trans (pM_39.trans (fI_at))
      | 1, hv => cases hv; exact fI_at
      | i + 2, hv => cases hv
theorem g_ra9 {ν : fM} {tx : Nat → Nat} {n to : Nat} {q : Nat × Bool} (H : MQt ν tx n q) (ht : to + 3 ≤ 244) : ∃ ν', sX8_readArguments [vR 8 0 0, vI (nI 9), vI (nI to)] ν = some (.inl none, ν') ∧ raRes 9 to tx n q ν ν' := by
  have e0 : (nI to).toNatClampNeg = to := nI_clamp (by omega)
  have e1 : (nI to + 1).toNatClampNeg = to + 1 := by rw [nI_1, nI_clamp (by omega)]
  have e2 : (nI to + 2).toNatClampNeg = to + 2 := by rw [fLit, nI_add, nI_clamp (by show to + 2 < 2 ^ 31; omega)]
  have c0 := g_digit H
  have H0 : MQt (fI (pM ν (stD tx n q)) 39 0 0 to (nI (vlD tx n q))) tx n (stD tx n q) := MQt_39 (MQt_pM H.1 (stD_le H.2.2.2))
  have c1 := g_numberBehind (c := 32) H0 (by omega)
  have H1 : MQt (fI (pM (fI (pM ν (stD tx n q)) 39 0 0 to (nI (vlD tx n q))) (stN tx n (stE tx n 32 (stD tx n q)))) 39 0 0 (to + 1) (nI (vlN tx n (stE tx n 32 (stD tx n q))))) tx n (stN tx n (stE tx n 32 (stD tx n q))) := MQt_39 (MQt_pM H0.1 (stN_le (stE_le H0.2.2.2)))
  have c2 := g_numberBehind (c := 32) H1 (by omega)
  have H2 : MQt (fI (pM (fI (pM (fI (pM ν (stD tx n q)) 39 0 0 to (nI (vlD tx n q))) (stN tx n (stE tx n 32 (stD tx n q)))) 39 0 0 (to + 1) (nI (vlN tx n (stE tx n 32 (stD tx n q))))) (stN tx n (stE tx n 32 (stN tx n (stE tx n 32 (stD tx n q)))))) 39 0 0 (to + 2) (nI (vlN tx n (stE tx n 32 (stN tx n (stE tx n 32 (stD tx n q))))))) tx n (stN tx n (stE tx n 32 (stN tx n (stE tx n 32 (stD tx n q))))) := MQt_39 (MQt_pM H1.1 (stN_le (stE_le H1.2.2.2)))
  have F : FRq tx n (ag 9) q = ((stN tx n (stE tx n 32 (stN tx n (stE tx n 32 (stD tx n q))))).1, if (stN tx n (stE tx n 32 (stN tx n (stE tx n 32 (stD tx n q))))).2 = true then none else some [vlD tx n q, vlN tx n (stE tx n 32 (stD tx n q)), vlN tx n (stE tx n 32 (stN tx n (stE tx n 32 (stD tx n q))))]) := by
    rw [show ag 9 = [35, 32, 42, 32, 42] from rfl, FRq_dig, FRq_lit (by decide), FRq_num, FRq_lit (by decide), FRq_num, FRq_nil]
    cases (stN tx n (stE tx n 32 (stN tx n (stE tx n 32 (stD tx n q))))).2 <;> rfl
  refine ⟨(fI (pM (fI (pM (fI (pM ν (stD tx n q)) 39 0 0 to (nI (vlD tx n q))) (stN tx n (stE tx n 32 (stD tx n q)))) 39 0 0 (to + 1) (nI (vlN tx n (stE tx n 32 (stD tx n q))))) (stN tx n (stE tx n 32 (stN tx n (stE tx n 32 (stD tx n q)))))) 39 0 0 (to + 2) (nI (vlN tx n (stE tx n 32 (stN tx n (stE tx n 32 (stD tx n q))))))), fsemV_of (Nat.le_of_ble_eq_true rfl) ?_, ?_, ?_, sX_trans (sX_trans (sX_trans (sX_trans (sX_trans pM_pa (sX_fI (Or.inr ⟨rfl, by omega, by omega⟩))) pM_pa) (sX_fI (Or.inr ⟨rfl, by omega, by omega⟩))) pM_pa) (sX_fI (Or.inr ⟨rfl, by omega, by omega⟩))⟩
  · skip
    refine fE_call (c0) 16 (fun _ => rfl) ?_
    refine fE_pos (by refine g_in (k := to) ?_ (show to < 244 from by omega) (show 244 < 2 ^ 31 from by decide); first | rfl | (simp (disch := omega) only [fLit, nI_add, pk_mul, pk_rem, pk_sub, nI_clamp]; done)) 1 (fun _ => rfl) ?_
    refine fE_step (y := fun zz => frun _ _ zz 43 [kR 8 0 0, kN 9, kN to] [] (fI (pM ν (stD tx n q)) 39 0 0 (nI to).toNatClampNeg (nI (vlD tx n q))) 0 0) 0 (fun _ => rfl) ?_
    rw [e0]
    refine fE_call (c1) 10 (fun _ => rfl) ?_
    refine fE_pos (by refine g_in (k := to + 1) ?_ (show to + 1 < 244 from by omega) (show 244 < 2 ^ 31 from by decide); first | rfl | (simp (disch := omega) only [fLit, nI_add, pk_mul, pk_rem, pk_sub, nI_clamp]; done)) 1 (fun _ => rfl) ?_
    refine fE_step (y := fun zz => frun _ _ zz 177 [kR 8 0 0, kN 9, kN to] [] (fI (pM (fI (pM ν (stD tx n q)) 39 0 0 to (nI (vlD tx n q))) (stN tx n (stE tx n 32 (stD tx n q)))) 39 0 0 (nI to + 1).toNatClampNeg (nI (vlN tx n (stE tx n 32 (stD tx n q))))) 0 0) 0 (fun _ => rfl) ?_
    rw [e1]
    refine fE_call (c2) 8 (fun _ => rfl) ?_
    refine fE_pos (by refine g_in (k := to + 2) ?_ (show to + 2 < 244 from by omega) (show 244 < 2 ^ 31 from by decide); first | rfl | (simp (disch := omega) only [fLit, nI_add, pk_mul, pk_rem, pk_sub, nI_clamp]; done)) 1 (fun _ => rfl) ?_
    refine fE_step (y := fun zz => frun _ _ zz 191 [kR 8 0 0, kN 9, kN to] [] (fI (pM (fI (pM (fI (pM ν (stD tx n q)) 39 0 0 to (nI (vlD tx n q))) (stN tx n (stE tx n 32 (stD tx n q)))) 39 0 0 (to + 1) (nI (vlN tx n (stE tx n 32 (stD tx n q))))) (stN tx n (stE tx n 32 (stN tx n (stE tx n 32 (stD tx n q)))))) 39 0 0 (nI to + 2).toNatClampNeg (nI (vlN tx n (stE tx n 32 (stN tx n (stE tx n 32 (stD tx n q))))))) 0 0) 0 (fun _ => rfl) ?_
    rw [e2]
    exact fE_ret 2 (fun _ => rfl)
  · rw [F, isNone_if]
    exact H2
  · intro vs hvs i v hv
    rw [F] at hvs
    change (if (stN tx n (stE tx n 32 (stN tx n (stE tx n 32 (stD tx n q))))).2 = true then none else some [vlD tx n q, vlN tx n (stE tx n 32 (stD tx n q)), vlN tx n (stE tx n 32 (stN tx n (stE tx n 32 (stD tx n q))))]) = some vs at hvs
    split at hvs
    · cases hvs
    · cases hvs
      match i, hv with
      | 0, hv => cases hv; exact (fI_ne (by omega)).trans (pM_39.trans ((fI_ne (by omega)).trans (pM_39.trans (fI_at))))
      | 1, hv => cases hv; exact (fI_ne (by omega)).trans (pM_39.trans (fI_at))
      | 2, hv => cases hv; exact fI_at
      | i + 3, hv => cases hv
theorem g_ra10 {ν : fM} {tx : Nat → Nat} {n to : Nat} {q : Nat × Bool} (H : MQt ν tx n q) (ht : to + 3 ≤ 244) : ∃ ν', sX8_readArguments [vR 8 0 0, vI (nI 10), vI (nI to)] ν = some (.inl none, ν') ∧ raRes 10 to tx n q ν ν' := by
  have e0 : (nI to).toNatClampNeg = to := nI_clamp (by omega)
  have e1 : (nI to + 1).toNatClampNeg = to + 1 := by rw [nI_1, nI_clamp (by omega)]
  have e2 : (nI to + 2).toNatClampNeg = to + 2 := by rw [fLit, nI_add, nI_clamp (by show to + 2 < 2 ^ 31; omega)]
  have c0 := g_number H
  have H0 : MQt (fI (pM ν (stN tx n q)) 39 0 0 to (nI (vlN tx n q))) tx n (stN tx n q) := MQt_39 (MQt_pM H.1 (stN_le H.2.2.2))
  have c1 := g_digitBehind H0
  have H1 : MQt (fI (pM (fI (pM ν (stN tx n q)) 39 0 0 to (nI (vlN tx n q))) (stD tx n (stE tx n 32 (stN tx n q)))) 39 0 0 (to + 1) (nI (vlD tx n (stE tx n 32 (stN tx n q))))) tx n (stD tx n (stE tx n 32 (stN tx n q))) := MQt_39 (MQt_pM H0.1 (stD_le (stE_le H0.2.2.2)))
  have F : FRq tx n (ag 10) q = ((stD tx n (stE tx n 32 (stN tx n q))).1, if (stD tx n (stE tx n 32 (stN tx n q))).2 = true then none else some [vlN tx n q, vlD tx n (stE tx n 32 (stN tx n q))]) := by
    rw [show ag 10 = [42, 32, 35] from rfl, FRq_num, FRq_lit (by decide), FRq_dig, FRq_nil]
    cases (stD tx n (stE tx n 32 (stN tx n q))).2 <;> rfl
  refine ⟨(fI (pM (fI (pM ν (stN tx n q)) 39 0 0 to (nI (vlN tx n q))) (stD tx n (stE tx n 32 (stN tx n q)))) 39 0 0 (to + 1) (nI (vlD tx n (stE tx n 32 (stN tx n q))))), fsemV_of (Nat.le_of_ble_eq_true rfl) ?_, ?_, ?_, sX_trans (sX_trans (sX_trans pM_pa (sX_fI (Or.inr ⟨rfl, by omega, by omega⟩))) pM_pa) (sX_fI (Or.inr ⟨rfl, by omega, by omega⟩))⟩
  · skip
    refine fE_call (c0) 16 (fun _ => rfl) ?_
    refine fE_pos (by refine g_in (k := to) ?_ (show to < 244 from by omega) (show 244 < 2 ^ 31 from by decide); first | rfl | (simp (disch := omega) only [fLit, nI_add, pk_mul, pk_rem, pk_sub, nI_clamp]; done)) 2 (fun _ => rfl) ?_
    refine fE_step (y := fun zz => frun _ _ zz 43 [kR 8 0 0, kN 10, kN to] [] (fI (pM ν (stN tx n q)) 39 0 0 (nI to).toNatClampNeg (nI (vlN tx n q))) 0 0) 0 (fun _ => rfl) ?_
    rw [e0]
    refine fE_call (c1) 9 (fun _ => rfl) ?_
    refine fE_pos (by refine g_in (k := to + 1) ?_ (show to + 1 < 244 from by omega) (show 244 < 2 ^ 31 from by decide); first | rfl | (simp (disch := omega) only [fLit, nI_add, pk_mul, pk_rem, pk_sub, nI_clamp]; done)) 1 (fun _ => rfl) ?_
    refine fE_step (y := fun zz => frun _ _ zz 160 [kR 8 0 0, kN 10, kN to] [] (fI (pM (fI (pM ν (stN tx n q)) 39 0 0 to (nI (vlN tx n q))) (stD tx n (stE tx n 32 (stN tx n q)))) 39 0 0 (nI to + 1).toNatClampNeg (nI (vlD tx n (stE tx n 32 (stN tx n q))))) 0 0) 0 (fun _ => rfl) ?_
    rw [e1]
    exact fE_ret 2 (fun _ => rfl)
  · rw [F, isNone_if]
    exact H1
  · intro vs hvs i v hv
    rw [F] at hvs
    change (if (stD tx n (stE tx n 32 (stN tx n q))).2 = true then none else some [vlN tx n q, vlD tx n (stE tx n 32 (stN tx n q))]) = some vs at hvs
    split at hvs
    · cases hvs
    · cases hvs
      match i, hv with
      | 0, hv => cases hv; exact (fI_ne (by omega)).trans (pM_39.trans (fI_at))
      | 1, hv => cases hv; exact fI_at
      | i + 2, hv => cases hv
theorem g_ra {ν : fM} {tx : Nat → Nat} {n to w : Nat} {q : Nat × Bool} (H : MQt ν tx n q) (hw : w < 11) (ht : to + 3 ≤ 244) : ∃ ν', sX8_readArguments [vR 8 0 0, vI (nI w), vI (nI to)] ν = some (.inl none, ν') ∧ raRes w to tx n q ν ν' := by
  match w, hw with
  | 0, _ => exact g_ra0 H ht
  | 1, _ => exact g_ra1 H ht
  | 2, _ => exact g_ra2 H ht
  | 3, _ => exact g_ra3 H ht
  | 4, _ => exact g_ra4 H ht
  | 5, _ => exact g_ra5 H ht
  | 6, _ => exact g_ra6 H ht
  | 7, _ => exact g_ra7 H ht
  | 8, _ => exact g_ra8 H ht
  | 9, _ => exact g_ra9 H ht
  | 10, _ => exact g_ra10 H ht
