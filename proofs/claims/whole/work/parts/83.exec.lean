/-! EXECUTE -/
def sZ (P : Nat → Nat → Nat → Nat → Prop) (μ μ' : fM) : Prop := (∀ C y h k, ¬ P C y h k → μ'.1 C y h k = μ.1 C y h k) ∧ (∀ C y h k, ¬ P C y h k → μ'.2.1 C y h k = μ.2.1 C y h k) ∧ μ'.2.2 = μ.2.2
theorem sZ_trans {P : Nat → Nat → Nat → Nat → Prop} {μ μ' μ'' : fM} (h1 : sZ P μ μ') (h2 : sZ P μ' μ'') : sZ P μ μ'' := ⟨fun c y h k q => (h2.1 c y h k q).trans (h1.1 c y h k q), fun c y h k q => (h2.2.1 c y h k q).trans (h1.2.1 c y h k q), h2.2.2.trans h1.2.2⟩
theorem sZ_refl {P : Nat → Nat → Nat → Nat → Prop} {μ : fM} : sZ P μ μ := ⟨fun _ _ _ _ _ => rfl, fun _ _ _ _ _ => rfl, rfl⟩
theorem sZ_ofX {P Q : Nat → Nat → Nat → Nat → Prop} {μ μ' : fM} (h1 : sX' Q μ μ') (h : ∀ C y h k, Q C y h k → P C y h k) : sZ P μ μ' := ⟨fun c y h' k q => h1.1 c y h' k (fun p => q (h c y h' k p)), fun c y h' k _ => congrFun (congrFun (congrFun (congrFun (congrArg Prod.fst h1.2) c) y) h') k, congrArg Prod.snd h1.2⟩
theorem sZ_ofY {P : Nat → Nat → Nat → Nat → Prop} {Q : Nat → Nat → Prop} {μ μ' : fM} (h1 : sY Q μ μ') (h : ∀ C y h k, Q C y → P C y h k) : sZ P μ μ' := ⟨fun c y h' k q => h1.1 c y h' k (fun p => q (h c y h' k p)), fun c y h' k q => h1.2.1 c y h' k (fun p => q (h c y h' k p)), h1.2.2⟩
theorem sZ_fI {P : Nat → Nat → Nat → Nat → Prop} {μ : fM} {c y h k : Nat} {v : Int32} (hp : P c y h k) : sZ P μ (fI μ c y h k v) := sZ_ofX (sX_fI (P := P) hp) (fun _ _ _ _ p => p)
theorem sZ_mono {P Q : Nat → Nat → Nat → Nat → Prop} {μ μ' : fM} (h1 : sZ P μ μ') (h : ∀ C y h k, P C y h k → Q C y h k) : sZ Q μ μ' := ⟨fun c y h' k q => h1.1 c y h' k (fun p => q (h c y h' k p)), fun c y h' k q => h1.2.1 c y h' k (fun p => q (h c y h' k p)), h1.2.2⟩
/-- what the model's execute may change -/
def gxP (C _y _h k : Nat) : Prop := C = 30 ∨ C = 31 ∨ C = 39 ∨ (C = 8 ∧ (k = 9 ∨ k = 11 ∨ 20 ≤ k))
def gxF (C _y _h k : Nat) : Prop := C = 30 ∨ C = 31 ∨ C = 39 ∨ (C = 8 ∧ (k = 6 ∨ k = 7 ∨ k = 8 ∨ k = 9 ∨ k = 11 ∨ 20 ≤ k))
theorem gA_sX {P : Nat → Nat → Nat → Nat → Prop} {μ : fM} {a : Nat → Nat} (h : ∀ y h k, P 30 y h k) : sX' P μ (gA μ a) := ⟨fun C y h' k q => by
  by_cases e : C = 30
  · subst e; exact absurd (h y h' k) q
  · exact gA_ne e, rfl⟩
theorem gS_sX {μ : fM} {a : Nat → Nat} : sX' gxP μ (gS μ a) := ⟨fun C y h k q => by
  have q : ¬ (C = 30 ∨ C = 31 ∨ C = 39 ∨ (C = 8 ∧ (k = 9 ∨ k = 11 ∨ 20 ≤ k))) := q
  show (hO 31 0 213 (gT μ 0) (fun i => nI (a i))).1 C y h k = _
  rw [hO_ne (by omega), fI_ne (by omega)], rfl⟩
theorem g_execute {μ : fM} {u n c : Nat} {a tx : Nat → Nat} (O : OKA u a) (hu : u + 12 ≤ 6200) (hn : n ≤ 60) (h11 : μ.1 8 0 0 11 = nI n) (ht : ∀ i, i < n → μ.1 34 0 0 i = nI (tx i) ∧ tx i < 128) (L : LTt μ) (hc : c ≤ 8) (h5 : μ.1 8 0 0 5 = nI c) :
    (∀ e, pP tx n 12 0 = .inl e → ∃ μ', sX8_execute [vR 8 0 0] (gA μ a) = some (.inl (some (vI (-1))), gA μ' a) ∧ μ'.1 8 0 0 9 = 1 ∧ μ'.1 8 0 0 6 = nI e ∧ μ'.1 8 0 0 7 = μ.1 8 0 0 7 ∧ μ'.1 8 0 0 8 = μ.1 8 0 0 8 ∧ μ'.1 8 0 0 11 = 0 ∧ sX' gxF μ μ') ∧
    (∀ l, pP tx n 12 0 = .inr l → (∀ f, rn l 0 a = .inl f → ∃ μ', sX8_execute [vR 8 0 0] (gA μ a) = some (.inl (some (vI (-1))), gA μ' a) ∧ μ'.1 8 0 0 9 = 2 ∧ μ'.1 8 0 0 6 = μ.1 8 0 0 6 ∧ μ'.1 8 0 0 7 = nI f.1 ∧ μ'.1 8 0 0 8 = (if f.2 = 0 then μ.1 8 0 0 8 else nI f.2) ∧ μ'.1 8 0 0 11 = 0 ∧ sX' gxF μ μ') ∧
      (∀ a', rn l 0 a = .inr a' → ∃ μ', sX8_execute [vR 8 0 0] (gA μ a) = some (.inl (some (vI (nI l.length))), gA (gKeep μ' c) a') ∧ μ'.1 8 0 0 9 = 0 ∧ μ'.1 8 0 0 11 = 0 ∧ (∀ k, k < 213 → μ'.1 31 0 0 k = nI (a k)) ∧ sX' gxP μ μ')) := by
  have f0 : sX' gxP μ (fI (fI (fI (fI (fI (gA (gS μ a) a) 8 0 0 22 (nI n)) 8 0 0 11 0) 8 0 0 21 0) 8 0 0 20 0) 8 0 0 23 0) :=
    sX_trans (sX_trans (sX_trans (sX_trans (sX_trans (sX_trans gS_sX (gA_sX (fun _ _ _ => Or.inl rfl))) (sX_fI (Or.inr (Or.inr (Or.inr ⟨rfl, by omega⟩))))) (sX_fI (Or.inr (Or.inr (Or.inr ⟨rfl, by omega⟩))))) (sX_fI (Or.inr (Or.inr (Or.inr ⟨rfl, by omega⟩))))) (sX_fI (Or.inr (Or.inr (Or.inr ⟨rfl, by omega⟩))))) (sX_fI (Or.inr (Or.inr (Or.inr ⟨rfl, by omega⟩))))
  have m0 : ∀ k, k < 213 → (fI (fI (fI (fI (fI (gA (gS μ a) a) 8 0 0 22 (nI n)) 8 0 0 11 0) 8 0 0 21 0) 8 0 0 20 0) 8 0 0 23 0).1 30 0 0 k = nI (a k) := fun k hk => by
    rw [fI_ne (by omega), fI_ne (by omega), fI_ne (by omega), fI_ne (by omega), fI_ne (by omega), gA_at' hk]
  have s0 : ∀ k, k < 213 → (fI (fI (fI (fI (fI (gA (gS μ a) a) 8 0 0 22 (nI n)) 8 0 0 11 0) 8 0 0 21 0) 8 0 0 20 0) 8 0 0 23 0).1 31 0 0 k = nI (a k) := fun k hk => by
    rw [fI_ne (by omega), fI_ne (by omega), fI_ne (by omega), fI_ne (by omega), fI_ne (by omega), gA_ne (by omega)]
    exact hO_in (by omega) (by omega)
  have t0 : (fI (fI (fI (fI (fI (gA (gS μ a) a) 8 0 0 22 (nI n)) 8 0 0 11 0) 8 0 0 21 0) 8 0 0 20 0) 8 0 0 23 0).1 8 0 0 9 = 0 := by
    rw [fI_ne (by omega), fI_ne (by omega), fI_ne (by omega), fI_ne (by omega), fI_ne (by omega), gA_ne (by omega)]
    exact (hO_ne (by omega)).trans fI_at
  have i0 : (fI (fI (fI (fI (fI (gA (gS μ a) a) 8 0 0 22 (nI n)) 8 0 0 11 0) 8 0 0 21 0) 8 0 0 20 0) 8 0 0 23 0).1 8 0 0 11 = 0 := by
    rw [fI_ne (by omega), fI_ne (by omega), fI_ne (by omega), fI_at]
  have q0 : MQt (fI (fI (fI (fI (fI (gA (gS μ a) a) 8 0 0 22 (nI n)) 8 0 0 11 0) 8 0 0 21 0) 8 0 0 20 0) 8 0 0 23 0) tx n (0, false) := by
    refine ⟨⟨hn, ?_, fun i hi => ⟨(f0.1 34 0 0 i (fun p => by rcases p with p | p | p | p <;> omega)).trans (ht i hi).1, (ht i hi).2⟩, fun k hk => (f0.1 38 0 0 k (fun p => by rcases p with p | p | p | p <;> omega)).trans (L.1 k hk), fun k hk => (f0.1 37 0 0 k (fun p => by rcases p with p | p | p | p <;> omega)).trans (L.2 k hk)⟩, ?_, fI_at, Nat.zero_le _⟩
    · rw [fI_ne (by omega), fI_ne (by omega), fI_ne (by omega), fI_ne (by omega), fI_at]
    · rw [fI_ne (by omega), fI_ne (by omega), fI_at]
      rfl
  have c0 : (fI (fI (fI (fI (fI (gA (gS μ a) a) 8 0 0 22 (nI n)) 8 0 0 11 0) 8 0 0 21 0) 8 0 0 20 0) 8 0 0 23 0).1 8 0 0 20 = nI 0 := by
    rw [fI_ne (by omega), fI_at]
    rfl
  have w0 : ∀ res, fEnds (fun zz => frun eX8_execute tX8_execute zz 34 [kR 8 0 0, kN 1, none, none] [] (fI (fI (fI (fI (fI (gA (gS μ a) a) 8 0 0 22 (nI n)) 8 0 0 11 0) 8 0 0 21 0) 8 0 0 20 0) 8 0 0 23 0) 0 0) res → fEnds (fun zz => frun eX8_execute tX8_execute zz 0 [kR 8 0 0, none, none, none] [] (gA μ a) 0 0) res := fun res R => by
    have r11 : (gA (gS μ a) a).1 8 0 0 11 = nI n := (gA_ne (by omega)).trans ((hO_ne (by omega)).trans ((fI_ne (by omega)).trans h11))
    skip
    refine fE_call (g_starts μ) 2 (fun _ => rfl) ?_
    refine fE_step (y := fun zz => frun _ _ zz 27 [kR 8 0 0, none, none, none] [] (fI (fI (fI (fI (gA (gS μ a) a) 8 0 0 22 ((gA (gS μ a) a).1 8 0 0 11)) 8 0 0 11 0) 8 0 0 21 0) 8 0 0 20 0) 0 0) 13 (fun _ => rfl) ?_
    rw [r11]
    refine fE_step (y := fun zz => frun _ _ zz 34 [kR 8 0 0, kN 1, none, none] [] _ 0 0) 5 (fun _ => rfl) ?_
    exact R
  revert f0 m0 s0 t0 i0 q0 c0 w0
  generalize fI (fI (fI (fI (fI (gA (gS μ a) a) 8 0 0 22 (nI n)) 8 0 0 11 0) 8 0 0 21 0) 8 0 0 20 0) 8 0 0 23 0 = ν0
  intro f0 m0 s0 t0 i0 q0 c0 w0
  obtain ⟨ν, x1, x2, x3, x4⟩ := g_exl (tx := tx) (n := n) 12 0 0 ν0 rfl (Nat.zero_le _) q0 c0
  have fr : sX' gxP ν0 ν := sX_mono x4 (fun C y h k p => by rcases p with p | p; exact Or.inr (Or.inr (Or.inr ⟨p.1, by omega⟩)); exact Or.inr (Or.inr (Or.inl p.1)))
  have f1 : sX' gxP μ ν := sX_trans f0 fr
  have m1 : ∀ k, k < 213 → ν.1 30 0 0 k = nI (a k) := fun k hk => (x4.1 30 0 0 k (fun p => by rcases p with p | p <;> omega)).trans (m0 k hk)
  have s1 : ∀ k, k < 213 → ν.1 31 0 0 k = nI (a k) := fun k hk => (x4.1 31 0 0 k (fun p => by rcases p with p | p <;> omega)).trans (s0 k hk)
  have t1 : ν.1 8 0 0 9 = 0 := (x4.1 8 0 0 9 (fun p => by rcases p with p | p <;> omega)).trans t0
  have i1 : ν.1 8 0 0 11 = 0 := (x4.1 8 0 0 11 (fun p => by rcases p with p | p <;> omega)).trans i0
  have self : gA ν a = ν := gA_self m1
  have out : ∀ k, k = 5 ∨ k = 6 ∨ k = 7 ∨ k = 8 → ν.1 8 0 0 k = μ.1 8 0 0 k := fun k hk => f1.1 8 0 0 k (fun p => by rcases p with p | p | p | p <;> omega)
  refine ⟨fun e he => ?_, fun l hl => ?_⟩
  · have E := x2 e he
    refine ⟨gT (fI ν 8 0 0 6 (nI e)) 1, fsemV_of (Nat.le_of_ble_eq_true rfl) (w0 _ (x1 _ ?_)), fI_at, (fI_ne (by omega)).trans fI_at, (fI_ne (by omega)).trans ((fI_ne (by omega)).trans (out 7 (by omega))), (fI_ne (by omega)).trans ((fI_ne (by omega)).trans (out 8 (by omega))), (fI_ne (by omega)).trans ((fI_ne (by omega)).trans i1), sX_trans (sX_mono f1 (fun C y h k p => by rcases p with p | p | p | p; exact Or.inl p; exact Or.inr (Or.inl p); exact Or.inr (Or.inr (Or.inl p)); exact Or.inr (Or.inr (Or.inr ⟨p.1, by omega⟩)))) (sX_trans (sX_fI (Or.inr (Or.inr (Or.inr ⟨rfl, by omega⟩)))) (sX_fI (Or.inr (Or.inr (Or.inr ⟨rfl, by omega⟩)))))⟩
    have th := g_throwing (fI ν 8 0 0 6 (nI e)) a 1
    rw [← gA_fI (by omega), self] at th
    refine fE_neg (fun p => by change ν.1 8 0 0 23 = 0 at p; rw [E.1] at p; exact absurd p (by decide)) 3 (fun _ => rfl) ?_
    refine fE_step (y := fun zz => frun _ _ zz 107 [kR 8 0 0, kN 0, none, none] [] (fI ν 8 0 0 6 (ν.1 8 0 0 21)) 0 0) 4 (fun _ => rfl) ?_
    rw [E.2]
    refine fE_call (th) 3 (fun _ => rfl) ?_
    exact fE_ret 1 (fun _ => rfl)
  · have E := x3 l hl
    have A := pP_all (Nat.zero_le n) hl
    have e20 : ν.1 8 0 0 20 = nI l.length := by rw [E.2.1, Nat.zero_add]
    have G := g_run (b := a) (N := l.length) (l0 := l) rfl A.2 A.1 l 0 u a ν (fun j q h => by rwa [Nat.zero_add]) (Nat.zero_add _) O (by have := A.2; omega) E.2.2 e20 t1 s1
    have w2 : ∀ res, fEnds (fun zz => frun eX8_execute tX8_execute zz 115 [kR 8 0 0, kN 0, kN 0, none] [] (gA ν a) 0 0) res → fEnds (fun zz => frun eX8_execute tX8_execute zz 0 [kR 8 0 0, none, none, none] [] (gA μ a) 0 0) res := fun res R => w0 _ (x1 _ (by
      rw [self] at R
      refine fE_pos (by exact E.1) 3 (fun _ => rfl) ?_
      refine fE_step (y := fun zz => frun _ _ zz 115 [kR 8 0 0, kN 0, kN 0, none] [] _ 0 0) 2 (fun _ => rfl) ?_
      exact R
      ))
    refine ⟨fun f hf => ?_, fun a' ha => ?_⟩
    · have R := w2 _ (G.1 f hf)
      have w8 : (mW ν f.2).1 8 0 0 8 = (if f.2 = 0 then μ.1 8 0 0 8 else nI f.2) := by
        unfold mW
        split
        · exact out 8 (by omega)
        · exact fI_at
      refine ⟨_, fsemV_of (Nat.le_of_ble_eq_true rfl) R, fI_at, (fI_ne (by omega)).trans ((fI_ne (by omega)).trans ((mW_out.1 8 0 0 6 (fun p => by have := p.2; omega)).trans (out 6 (by omega)))), (fI_ne (by omega)).trans fI_at, (fI_ne (by omega)).trans ((fI_ne (by omega)).trans w8), (fI_ne (by omega)).trans ((fI_ne (by omega)).trans ((mW_out.1 8 0 0 11 (fun p => by have := p.2; omega)).trans i1)), sX_trans (sX_mono f1 (fun C y h k p => by rcases p with p | p | p | p; exact Or.inl p; exact Or.inr (Or.inl p); exact Or.inr (Or.inr (Or.inl p)); exact Or.inr (Or.inr (Or.inr ⟨p.1, by omega⟩)))) (sX_trans (sX_mono mW_out (fun C y h k p => Or.inr (Or.inr (Or.inr ⟨p.1, by have := p.2; omega⟩)))) (sX_trans (sX_fI (Or.inr (Or.inr (Or.inr ⟨rfl, by omega⟩)))) (sX_fI (Or.inr (Or.inr (Or.inr ⟨rfl, by omega⟩))))))⟩
    · have ch := g_changed ν (a := a') (c := c) (t := nI l.length) hc ((out 5 (by omega)).trans h5) t1
      refine ⟨ν, fsemV_of (Nat.le_of_ble_eq_true rfl) (w2 _ (G.2 a' ha _ ?_)), t1, i1, s1, f1⟩
      have rd : (gA ν a').1 8 0 0 20 = nI l.length := (gA_ne (by omega)).trans e20
      have ch' : sX8_changed [vR 8 0 0, vI ((gA ν a').1 8 0 0 20)] (gA ν a') = some (.inl (some (vI (nI l.length))), gA (gKeep ν c) a') := by rw [rd]; exact ch
      refine fE_call (ch') 4 (fun _ => rfl) ?_
      exact fE_ret 1 (fun _ => rfl)
