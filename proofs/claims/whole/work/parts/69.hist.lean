theorem sY_refl {P : Nat → Nat → Prop} {μ : fM} : sY P μ μ := ⟨fun _ _ _ _ _ => rfl, fun _ _ _ _ _ => rfl, rfl⟩
theorem sY_trans {P : Nat → Nat → Prop} {μ μ' μ'' : fM} (h1 : sY P μ μ') (h2 : sY P μ' μ'') : sY P μ μ'' := ⟨fun c y h k q => (h2.1 c y h k q).trans (h1.1 c y h k q), fun c y h k q => (h2.2.1 c y h k q).trans (h1.2.1 c y h k q), h2.2.2.trans h1.2.2⟩
theorem sY_mono {P Q : Nat → Nat → Prop} {μ μ' : fM} (h1 : sY P μ μ') (h : ∀ c y, P c y → Q c y) : sY Q μ μ' := ⟨fun c y h' k q => h1.1 c y h' k (fun p => q (h c y p)), fun c y h' k q => h1.2.1 c y h' k (fun p => q (h c y p)), h1.2.2⟩
theorem sY_ofX {P : Nat → Nat → Prop} {R : Nat → Nat → Nat → Nat → Prop} {μ μ' : fM} (h1 : sX' R μ μ') (h : ∀ c y h k, R c y h k → P c y) : sY P μ μ' := ⟨fun c y h' k q => h1.1 c y h' k (fun p => q (h c y h' k p)), fun c y h' k _ => congrFun (congrFun (congrFun (congrFun (congrArg Prod.fst h1.2) c) y) h') k, congrArg Prod.snd h1.2⟩
theorem sY_fI {P : Nat → Nat → Prop} {μ : fM} {c y h k : Nat} {v : Int32} (hp : P c y) : sY P μ (fI μ c y h k v) := ⟨fun c' y' h' k' q => fI_ne (fun e => q (by obtain ⟨rfl, rfl, rfl, rfl⟩ := e; exact hp)), fun _ _ _ _ _ => rfl, rfl⟩
theorem YR_out {μ μ' : fM} {y : Nat} {a : Nat → Nat} (Y : YR μ y a) (e : ∀ c h k, yP y c y → μ'.1 c y h k = μ.1 c y h k) (e2 : μ'.2.1 6 y 0 6 = μ.2.1 6 y 0 6) : YR μ' y a :=
  ⟨fun h hh => HV_out (Y.1 h hh) (fun c k hc => e c h k ⟨by omega, rfl⟩), fun k hk => (e 14 0 k ⟨by omega, rfl⟩).trans (Y.tide hk), fun k hk => (e 15 0 k ⟨by omega, rfl⟩).trans (Y.slip hk), (e 6 0 4 ⟨by omega, rfl⟩).trans Y.begun, (e 6 0 5 ⟨by omega, rfl⟩).trans Y.now, e2.trans Y.paid, (e 2 0 5 ⟨by omega, rfl⟩).trans Y.count, (e 2 0 6 ⟨by omega, rfl⟩).trans Y.next, fun k hk => (e 16 0 k ⟨by omega, rfl⟩).trans (Y.id hk), fun k hk => (e 17 0 k ⟨by omega, rfl⟩).trans (Y.fr hk), fun k hk => (e 18 0 k ⟨by omega, rfl⟩).trans (Y.hr hk), fun k hk => (e 19 0 k ⟨by omega, rfl⟩).trans (Y.co hk)⟩
theorem YR_sY {μ μ' : fM} {y : Nat} {a : Nat → Nat} {P : Nat → Nat → Prop} (Y : YR μ y a) (S : sY P μ μ') (h : ∀ c, yP y c y → ¬ P c y) : YR μ' y a :=
  YR_out Y (fun c h' k hc => S.1 c y h' k (h c hc)) (S.2.1 6 y 0 6 (h 6 ⟨by omega, rfl⟩))
theorem yFin_out {μ : fM} {y y2 : Nat} : sY (yP y) μ (yFin μ y y2) := by
  refine ⟨fun c y' h k q => ?_, fun c y' h k q => ?_, rfl⟩
  · have q : ¬ ((c = 1 ∨ c = 2 ∨ c = 6 ∨ c = 10 ∨ c = 11 ∨ c = 12 ∨ c = 14 ∨ c = 15 ∨ c = 16 ∨ c = 17 ∨ c = 18 ∨ c = 19) ∧ y' = y) := q
    exact yFin_i (by omega)
  · have q : ¬ ((c = 1 ∨ c = 2 ∨ c = 6 ∨ c = 10 ∨ c = 11 ∨ c = 12 ∨ c = 14 ∨ c = 15 ∨ c = 16 ∨ c = 17 ∨ c = 18 ∨ c = 19) ∧ y' = y) := q
    exact if_neg (fun p => q ⟨by omega, p.2.2.1⟩)
theorem c_ybec_2 {μ : fM} {y y2 : Nat} (hne : ¬ y2 = y) : fEnds (fun zz => frun eX6_become tX6_become zz 29 [kR 6 y 0, kR 6 y2 0, kN 6] [] μ 0 0) (.inl none, yFin μ y y2) := by
  have e : ∀ k, (oBec (fCp (fCp μ 14 y2 0 14 y 0 0 0 12) 15 y2 0 15 y 0 0 0 4) y y2).1 6 y2 0 k = μ.1 6 y2 0 k := fun k => by
    rw [oBec_out.1 6 y2 0 k (fun p => by have := p.1; omega), fCp_ne (by omega), fCp_ne (by omega)]
  have n3 : ∀ (m : fM) v k k2, (fI m 6 y 0 k v).1 6 y2 0 k2 = m.1 6 y2 0 k2 := fun m v k k2 => fI_ne (by omega)
  refine fE_call (c_obecome (μ := fCp (fCp μ 14 y2 0 14 y 0 0 0 12) 15 y2 0 15 y 0 0 0 4) hne) 21 (fun _ => rfl) ?_
  refine fE_ret2 13 (fun _ => rfl) ?_
  unfold yFin
  show (Sum.inl none, fJ (fI (fI (oBec (fCp (fCp μ 14 y2 0 14 y 0 0 0 12) 15 y2 0 15 y 0 0 0 4) y y2) 6 y 0 4 ((oBec (fCp (fCp μ 14 y2 0 14 y 0 0 0 12) 15 y2 0 15 y 0 0 0 4) y y2).1 6 y2 0 4)) 6 y 0 5 ((fI (oBec (fCp (fCp μ 14 y2 0 14 y 0 0 0 12) 15 y2 0 15 y 0 0 0 4) y y2) 6 y 0 4 ((oBec (fCp (fCp μ 14 y2 0 14 y 0 0 0 12) 15 y2 0 15 y 0 0 0 4) y y2).1 6 y2 0 4)).1 6 y2 0 5)) 6 y 0 6 (μ.2.1 6 y2 0 6)) = _
  simp only [n3, e]
theorem c_ybecome {μ : fM} {y y2 u : Nat} {a : Nat → Nat} (hne : ¬ y2 = y) (O : OKA u a) (Y : YR μ y2 a) : ∃ μ', sX6_become [vR 6 y 0, vR 6 y2 0] μ = some (.inl none, μ') ∧ YR μ' y a ∧ sY (yP y) μ μ' := by
  obtain ⟨μ1, r1, r2, r3⟩ := c_ybec_1 hne (fun h hh => O.hb hh) 6 0 μ rfl (fun h hh => absurd hh (by omega)) Y.1
  have s1 : sY (yP y) μ μ1 := sY_ofX r3 (fun c y h k p => ⟨by have := p.1; omega, p.2⟩)
  have Y1 : YR μ1 y2 a := YR_sY Y s1 (fun c _ p => hne p.2)
  refine ⟨yFin μ1 y y2, fsemV_of (Nat.le_of_ble_eq_true rfl) ?_, yFin_yr hne O r2 Y1, sY_trans s1 yFin_out⟩
  have R := r1 _ (c_ybec_2 hne)
  refine fE_step (y := fun zz => frun _ _ zz 2 [kR 6 y 0, kR 6 y2 0, kN 0] [] _ 0 0) 2 (fun _ => rfl) ?_
  exact R
/-! THE HISTORY: the states before the last modifications, the oldest first -/
def HR (μ : fM) (l : List (Nat → Nat)) : Prop := ∃ o, o < 8 ∧ l.length ≤ 8 ∧ μ.1 0 0 0 1 = nI o ∧ μ.1 0 0 0 2 = nI l.length ∧ ∀ i b, l[i]? = some b → YR μ (3 + (o + i) % 8) b
def kp (l : List (Nat → Nat)) (a : Nat → Nat) : List (Nat → Nat) := if l.length = 8 then l.tail ++ [a] else l ++ [a]
def kpP (c y : Nat) : Prop := c = 0 ∨ 3 ≤ y ∧ yP y c y
theorem kp_len {l : List (Nat → Nat)} {a : Nat → Nat} (h : l.length ≤ 8) : (kp l a).length = (if l.length = 8 then 8 else l.length + 1) := by
  unfold kp
  split <;> simp <;> omega
theorem c_keep {μ : fM} {y u : Nat} {a : Nat → Nat} {l : List (Nat → Nat)} (hy : y < 3) (O : OKA u a) (Y : YR μ y a) (H : HR μ l) : ∃ μ', sX0_keep [vR 0 0 0, vR 6 y 0] μ = some (.inl none, μ') ∧ HR μ' (kp l a) ∧ sY kpP μ μ' := by
  obtain ⟨o, ho, hl, h1, h2, hP⟩ := H
  have e : (μ.1 0 0 0 1 + μ.1 0 0 0 2 - (μ.1 0 0 0 1 + μ.1 0 0 0 2) / 8 * 8) = nI ((o + l.length) % 8) := by
    rw [h1, h2, nI_add, fLit, pk_rem (by omega) (by decide) (by decide)]
  have e' : (μ.1 0 0 0 1 + μ.1 0 0 0 2 - (μ.1 0 0 0 1 + μ.1 0 0 0 2) / 8 * 8).toNatClampNeg = (o + l.length) % 8 := by
    rw [e, nI_clamp (by omega)]
  obtain ⟨μ1, r1, r2, r3⟩ := c_ybecome (μ := μ) (y := 3 + (o + l.length) % 8) (y2 := y) (by omega) O Y
  have k1 : μ1.1 0 0 0 1 = nI o := (r3.1 0 0 0 1 (fun p => by have := p.1; omega)).trans h1
  have k2 : μ1.1 0 0 0 2 = nI l.length := (r3.1 0 0 0 2 (fun p => by have := p.1; omega)).trans h2
  have S1 : sY kpP μ μ1 := sY_mono r3 (fun c y' p => Or.inr ⟨by have := p.2; omega, p.1, rfl⟩)
  by_cases q : l.length = 8
  · refine ⟨fI μ1 0 0 0 1 (nI ((o + 1) % 8)), fsemV_of (Nat.le_of_ble_eq_true rfl) ?_, ?_, sY_trans S1 (sY_fI (Or.inl rfl))⟩
    · skip
      refine fE_pos (by exact g_in (k := (o + l.length) % 8) e (show (o + l.length) % 8 < 8 from by omega) (by decide)) 10 (fun _ => rfl) ?_
      refine fE_step (y := fun zz => frun _ _ zz 17 [kR 0 0 0, kR 6 y 0] [vR 6 (3 + (μ.1 0 0 0 1 + μ.1 0 0 0 2 - (μ.1 0 0 0 1 + μ.1 0 0 0 2) / 8 * 8).toNatClampNeg) 0] _ 0 0) 0 (fun _ => rfl) ?_
      rw [e']
      refine fE_call (r1) 2 (fun _ => rfl) ?_
      refine fE_pos (by show nI 8 ≤ μ1.1 0 0 0 2; rw [k2, q]; decide) 4 (fun _ => rfl) ?_
      refine fE_ret2 9 (fun _ => rfl) ?_
      show (Sum.inl none, fI μ1 0 0 0 1 (μ1.1 0 0 0 1 + 1 - (μ1.1 0 0 0 1 + 1) / 8 * 8)) = _
      rw [k1, nI_1, fLit, pk_rem (by omega) (by decide) (by decide)]
    · refine ⟨(o + 1) % 8, by omega, ?_, fI_at, ?_, fun i b hi => ?_⟩
      · rw [kp_len hl, if_pos q]; omega
      · rw [kp_len hl, if_pos q, fI_ne (by omega), k2, q]
      · have hlt : (l.tail).length = 7 := by simp [q]
        unfold kp at hi
        rw [if_pos q] at hi
        have out : ∀ y' b', YR μ1 y' b' → YR (fI μ1 0 0 0 1 (nI ((o + 1) % 8))) y' b' := fun y' b' Y' => YR_out Y' (fun c h k hc => fI_ne (fun p => by have := hc.1; omega)) rfl
        by_cases c : i < 7
        · rw [List.getElem?_append_left (by omega)] at hi
          have hi2 : l[i + 1]? = some b := by rw [← hi]; simp
          have hY := hP (i + 1) b hi2
          rw [show ((o + 1) % 8 + i) % 8 = (o + (i + 1)) % 8 from by omega]
          exact out _ _ (YR_sY hY r3 (fun c' _ p => by have := p.2; omega))
        · have hi7 : i = 7 := by
            have := (List.getElem?_eq_some_iff.mp hi).1
            simp [q] at this
            omega
          subst hi7
          rw [List.getElem?_append_right (by omega), hlt] at hi
          obtain rfl : a = b := by simpa using hi
          rw [show ((o + 1) % 8 + 7) % 8 = (o + l.length) % 8 from by omega]
          exact out _ _ r2
  · refine ⟨fI μ1 0 0 0 2 (nI (l.length + 1)), fsemV_of (Nat.le_of_ble_eq_true rfl) ?_, ?_, sY_trans S1 (sY_fI (Or.inl rfl))⟩
    · skip
      refine fE_pos (by exact g_in (k := (o + l.length) % 8) e (show (o + l.length) % 8 < 8 from by omega) (by decide)) 10 (fun _ => rfl) ?_
      refine fE_step (y := fun zz => frun _ _ zz 17 [kR 0 0 0, kR 6 y 0] [vR 6 (3 + (μ.1 0 0 0 1 + μ.1 0 0 0 2 - (μ.1 0 0 0 1 + μ.1 0 0 0 2) / 8 * 8).toNatClampNeg) 0] _ 0 0) 0 (fun _ => rfl) ?_
      rw [e']
      refine fE_call (r1) 2 (fun _ => rfl) ?_
      refine fE_neg (fun p => by change nI 8 ≤ μ1.1 0 0 0 2 at p; rw [k2] at p; have := (nI_leI (by omega) (by omega)).mp p; omega) 4 (fun _ => rfl) ?_
      refine fE_ret2 8 (fun _ => rfl) ?_
      show (Sum.inl none, fI μ1 0 0 0 2 (μ1.1 0 0 0 2 + 1)) = _
      rw [k2, nI_1]
    · refine ⟨o, ho, ?_, ?_, ?_, fun i b hi => ?_⟩
      · rw [kp_len hl, if_neg q]; omega
      · rw [fI_ne (by omega), k1]
      · rw [kp_len hl, if_neg q, fI_at]
      · unfold kp at hi
        rw [if_neg q] at hi
        have out : ∀ y' b', YR μ1 y' b' → YR (fI μ1 0 0 0 2 (nI (l.length + 1))) y' b' := fun y' b' Y' => YR_out Y' (fun c h k hc => fI_ne (fun p => by have := hc.1; omega)) rfl
        by_cases c : i < l.length
        · rw [List.getElem?_append_left c] at hi
          have hY := hP i b hi
          exact out _ _ (YR_sY hY r3 (fun c' _ p => by have := p.2; omega))
        · have hi7 : i = l.length := by
            have := (List.getElem?_eq_some_iff.mp hi).1
            simp at this
            omega
          subst hi7
          rw [List.getElem?_append_right (by omega), Nat.sub_self] at hi
          obtain rfl : a = b := by simpa using hi
          exact out _ _ r2
theorem c_takeBack {μ : fM} {y u : Nat} {b : Nat → Nat} {l : List (Nat → Nat)} (hy : y < 3) (O : OKA u b) (H : HR μ (l ++ [b])) : ∃ μ', sX0_takeBack [vR 0 0 0, vR 6 y 0] μ = some (.inl none, μ') ∧ YR μ' y b ∧ HR μ' l ∧ sY (fun c y' => c = 0 ∨ yP y c y') μ μ' := by
  obtain ⟨o, ho, hl, h1, h2, hP⟩ := H
  have hl' : l.length + 1 ≤ 8 := by simpa using hl
  have h2' : μ.1 0 0 0 2 = nI (l.length + 1) := by rw [h2]; simp
  have e0 : μ.1 0 0 0 2 - 1 = nI l.length := by rw [h2', nI_pred]
  have YB : YR μ (3 + (o + l.length) % 8) b := hP l.length b (by simp)
  have YB1 : YR (fI μ 0 0 0 2 (nI l.length)) (3 + (o + l.length) % 8) b := YR_out YB (fun c h k hc => fI_ne (fun p => by have := hc.1; omega)) rfl
  have e : ((fI μ 0 0 0 2 (nI l.length)).1 0 0 0 1 + (fI μ 0 0 0 2 (nI l.length)).1 0 0 0 2 - ((fI μ 0 0 0 2 (nI l.length)).1 0 0 0 1 + (fI μ 0 0 0 2 (nI l.length)).1 0 0 0 2) / 8 * 8) = nI ((o + l.length) % 8) := by
    rw [fI_at, fI_ne (by omega), h1, nI_add, fLit, pk_rem (by omega) (by decide) (by decide)]
  have e' : ((fI μ 0 0 0 2 (nI l.length)).1 0 0 0 1 + (fI μ 0 0 0 2 (nI l.length)).1 0 0 0 2 - ((fI μ 0 0 0 2 (nI l.length)).1 0 0 0 1 + (fI μ 0 0 0 2 (nI l.length)).1 0 0 0 2) / 8 * 8).toNatClampNeg = (o + l.length) % 8 := by
    rw [e, nI_clamp (by omega)]
  obtain ⟨μ1, r1, r2, r3⟩ := c_ybecome (μ := fI μ 0 0 0 2 (nI l.length)) (y := y) (y2 := 3 + (o + l.length) % 8) (by omega) O YB1
  refine ⟨μ1, fsemV_of (Nat.le_of_ble_eq_true rfl) ?_, r2, ⟨o, ho, by omega, ?_, ?_, fun i b' hi => ?_⟩, sY_trans (sY_fI (Or.inl rfl)) (sY_mono r3 (fun c y' p => Or.inr p))⟩
  · skip
    refine fE_step (y := fun zz => frun _ _ zz 10 [kR 0 0 0, kR 6 y 0] [] (fI μ 0 0 0 2 (μ.1 0 0 0 2 - 1)) 0 0) 6 (fun _ => rfl) ?_
    rw [e0]
    refine fE_pos (by exact g_in (k := (o + l.length) % 8) e (show (o + l.length) % 8 < 8 from by omega) (by decide)) 11 (fun _ => rfl) ?_
    refine fE_step (y := fun zz => frun _ _ zz 28 [kR 0 0 0, kR 6 y 0] [vR 6 (3 + ((fI μ 0 0 0 2 (nI l.length)).1 0 0 0 1 + (fI μ 0 0 0 2 (nI l.length)).1 0 0 0 2 - ((fI μ 0 0 0 2 (nI l.length)).1 0 0 0 1 + (fI μ 0 0 0 2 (nI l.length)).1 0 0 0 2) / 8 * 8).toNatClampNeg) 0, vR 6 y 0] _ 0 0) 0 (fun _ => rfl) ?_
    rw [e']
    refine fE_call (r1) 1 (fun _ => rfl) ?_
    exact fE_ret 1 (fun _ => rfl)
  · rw [r3.1 0 0 0 1 (fun p => by have := p.1; omega), fI_ne (by omega), h1]
  · rw [r3.1 0 0 0 2 (fun p => by have := p.1; omega), fI_at]
  · have hlt : i < l.length := (List.getElem?_eq_some_iff.mp hi).1
    have hY := hP i b' (by rw [List.getElem?_append_left hlt]; exact hi)
    have hY1 : YR (fI μ 0 0 0 2 (nI l.length)) (3 + (o + i) % 8) b' := YR_out hY (fun c h k hc => fI_ne (fun p => by have := hc.1; omega)) rfl
    exact YR_sY hY1 r3 (fun c' _ p => by have := p.2; omega)
