theorem wS_le {r : Option Nat} {q : Nat × Nat} {c : Nat} (hr : ∀ m, r = some m → m ≤ 4) (h1 : q.1 ≤ 4) (h2 : q.2 ≤ c) : (wS r q).1 ≤ 4 ∧ (wS r q).2 ≤ c + 1 := by
  unfold wS
  split
  · exact ⟨h1, by omega⟩
  · rename_i n
    have := hr n rfl
    split
    · exact ⟨by show n ≤ 4; omega, by show 1 ≤ c + 1; omega⟩
    · split
      · exact ⟨h1, by show q.2 + 1 ≤ c + 1; omega⟩
      · exact ⟨h1, by omega⟩
theorem wW_le {a : Nat → Nat} : ∀ {j c q}, q.1 ≤ 4 → q.2 ≤ c → (wW a j c q).1 ≤ 4 ∧ (wW a j c q).2 ≤ c + j
  | 0, c, q, h1, h2 => ⟨h1, h2⟩
  | j + 1, c, q, h1, h2 => by
    have h3 := wS_le (r := uU a 4 c 0 0 0) (q := q) (c := c) (fun m hm => by have := uU_le hm; omega) h1 h2
    have h4 := wW_le (a := a) (j := j) (c := c + 1) h3.1 h3.2
    unfold wW
    exact ⟨h4.1, by omega⟩
theorem wU_le {a : Nat → Nat} : (wU a).1 ≤ 4 ∧ (wU a).2 ≤ 2401 := by
  have := wW_le (a := a) (j := 2401) (c := 0) (q := (0, 0)) (by decide) (by decide)
  exact ⟨this.1, by have := this.2; omega⟩
theorem q_mostOnSlips (μ : fM) {u : Nat} {a : Nat → Nat} (O : OKA u a) : sX8_mostOnSlips [vR 8 0 0] (gA μ a) = some (.inl (some (vI (nI (wU a).1))), gA (wM (gT μ 0) (wU a)) a) := by
  refine fsemV_of (Nat.le_of_ble_eq_true rfl) ?_
  refine fE_step (y := fun zz => frun _ _ zz 5 [kR 8 0 0] [] (fI (gA μ a) 8 0 0 9 0) 0 0) 3 (fun _ => rfl) ?_
  rw [gA_fI (by decide)]
  refine fE_call (g_worksUses (gT μ 0) O) 2 (fun _ => rfl) ?_
  generalize wU a = q
  exact fE_ret 3 (fun _ => rfl)
theorem q_mostByLengths (μ : fM) {u : Nat} {a : Nat → Nat} (O : OKA u a) : sX8_mostOnSlipsByLengths [vR 8 0 0] (gA μ a) = some (.inl (some (vI (nI (wU a).1))), gA (wM (gT μ 0) (wU a)) a) := by
  refine fsemV_of (Nat.le_of_ble_eq_true rfl) ?_
  refine fE_call (q_mostOnSlips μ O) 2 (fun _ => rfl) ?_
  generalize wU a = q
  exact fE_ret 1 (fun _ => rfl)
theorem l2i_of {n : Nat} (h : n < 2 ^ 31) : (Int64.ofNat n).toInt32 = nI n := by
  rw [lit_l h, Int32.toInt32_toInt64]
theorem q_bestUses (μ : fM) {u : Nat} {a : Nat → Nat} (O : OKA u a) : sX8_bestUses [vR 8 0 0] (gA μ a) = some (.inl (some (vI (nI (wU a).2))), gA (wM (gT μ 0) (wU a)) a) := by
  have hq := (wU_le (a := a)).2
  refine fsemV_of (Nat.le_of_ble_eq_true rfl) ?_
  refine fE_step (y := fun zz => frun _ _ zz 5 [kR 8 0 0] [] (fI (gA μ a) 8 0 0 9 0) 0 0) 3 (fun _ => rfl) ?_
  rw [gA_fI (by decide)]
  refine fE_call (g_worksUses (gT μ 0) O) 2 (fun _ => rfl) ?_
  revert hq
  generalize wU a = q
  intro hq
  refine fE_ret2 4 (fun _ => rfl) ?_
  show (Sum.inl (some (vI ((Int64.ofNat q.2).toInt32))), _) = _
  rw [l2i_of (by omega)]
/-! THE FIRST n OF AN ARRAY -/
def gB (K n : Nat) (μ : fM) (f : Nat → Nat) : fM := (fun c y h k => if c = K ∧ y = 0 ∧ h = 0 ∧ k < n then nI (f k) else μ.1 c y h k, μ.2)
theorem gB_at {K n : Nat} {μ : fM} {f : Nat → Nat} {k : Nat} (h : k < n) : (gB K n μ f).1 K 0 0 k = nI (f k) := if_pos ⟨rfl, rfl, rfl, h⟩
theorem gB_ne {K n : Nat} {μ : fM} {f : Nat → Nat} {c y h k : Nat} (hc : c ≠ K) : (gB K n μ f).1 c y h k = μ.1 c y h k := if_neg (fun q => hc q.1)
theorem gB_0 {K : Nat} {μ : fM} {f : Nat → Nat} : gB K 0 μ f = μ := by
  refine Prod.ext ?_ rfl
  funext c y h k
  exact if_neg (fun q => absurd q.2.2.2 (Nat.not_lt_zero k))
theorem gB_more {K n : Nat} {μ : fM} {f : Nat → Nat} : fI (gB K n μ f) K 0 0 n (nI (f n)) = gB K (n + 1) μ f := by
  refine Prod.ext ?_ rfl
  funext c y h k
  show (if c = K ∧ k = n ∧ y = 0 ∧ h = 0 then nI (f n) else (if c = K ∧ y = 0 ∧ h = 0 ∧ k < n then nI (f k) else μ.1 c y h k)) = (if c = K ∧ y = 0 ∧ h = 0 ∧ k < n + 1 then nI (f k) else μ.1 c y h k)
  by_cases e : c = K ∧ y = 0 ∧ h = 0
  · obtain ⟨rfl, rfl, rfl⟩ := e
    by_cases ek : k = n
    · subst ek
      rw [if_pos ⟨rfl, rfl, rfl, rfl⟩, if_pos ⟨rfl, rfl, rfl, Nat.lt_succ_self k⟩]
    · rw [if_neg (fun q => ek q.2.1)]
      by_cases l : k < n
      · rw [if_pos ⟨rfl, rfl, rfl, l⟩, if_pos ⟨rfl, rfl, rfl, by omega⟩]
      · rw [if_neg (fun q => l q.2.2.2), if_neg (fun q => by have := q.2.2.2; omega)]
  · rw [if_neg (fun q => e ⟨q.1, q.2.2⟩), if_neg (fun q => e ⟨q.1, q.2.1, q.2.2.1⟩), if_neg (fun q => e ⟨q.1, q.2.1, q.2.2.1⟩)]
theorem gB_set {K n : Nat} {μ : fM} {f : Nat → Nat} {k v : Nat} (hk : k < n) : fI (gB K n μ f) K 0 0 k (nI v) = gB K n μ (up f k v) := by
  refine Prod.ext ?_ rfl
  funext c y h k'
  show (if c = K ∧ k' = k ∧ y = 0 ∧ h = 0 then nI v else (if c = K ∧ y = 0 ∧ h = 0 ∧ k' < n then nI (f k') else μ.1 c y h k')) = (if c = K ∧ y = 0 ∧ h = 0 ∧ k' < n then nI (up f k v k') else μ.1 c y h k')
  by_cases e : c = K ∧ y = 0 ∧ h = 0
  · obtain ⟨rfl, rfl, rfl⟩ := e
    by_cases ek : k' = k
    · subst ek
      rw [if_pos ⟨rfl, rfl, rfl, rfl⟩, if_pos ⟨rfl, rfl, rfl, hk⟩, up_at]
    · rw [if_neg (fun q => ek q.2.1), up_ne ek]
  · rw [if_neg (fun q => e ⟨q.1, q.2.2⟩), if_neg (fun q => e ⟨q.1, q.2.1, q.2.2.1⟩), if_neg (fun q => e ⟨q.1, q.2.1, q.2.2.1⟩)]
theorem gB_fI {K n : Nat} {μ : fM} {f : Nat → Nat} {c y h k : Nat} {v : Int32} (hc : c ≠ K) : fI (gB K n μ f) c y h k v = gB K n (fI μ c y h k v) f := by
  refine Prod.ext ?_ rfl
  funext c' y' h' k'
  show (if c' = c ∧ k' = k ∧ y' = y ∧ h' = h then v else (if c' = K ∧ y' = 0 ∧ h' = 0 ∧ k' < n then nI (f k') else μ.1 c' y' h' k')) = (if c' = K ∧ y' = 0 ∧ h' = 0 ∧ k' < n then nI (f k') else (if c' = c ∧ k' = k ∧ y' = y ∧ h' = h then v else μ.1 c' y' h' k'))
  split <;> split <;> first | rfl | (rename_i p q; exact absurd (p.1.symm.trans q.1) hc)
theorem gB_eq {K n : Nat} {μ : fM} {f g : Nat → Nat} (h : ∀ k, k < n → f k = g k) : gB K n μ f = gB K n μ g := by
  refine Prod.ext ?_ rfl
  funext c y h' k
  show (if c = K ∧ y = 0 ∧ h' = 0 ∧ k < n then nI (f k) else _) = (if c = K ∧ y = 0 ∧ h' = 0 ∧ k < n then nI (g k) else _)
  split
  · rename_i q; rw [h k q.2.2.2]
  · rfl
theorem gA_gB {K n : Nat} {μ : fM} {a f : Nat → Nat} (hK : K ≠ 30) : gB K n (gA μ a) f = gA (gB K n μ f) a := by
  refine Prod.ext ?_ rfl
  funext c y h k
  show (if c = K ∧ y = 0 ∧ h = 0 ∧ k < n then nI (f k) else (if c = 30 ∧ y = 0 ∧ h = 0 ∧ k < 213 then nI (a k) else μ.1 c y h k)) = (if c = 30 ∧ y = 0 ∧ h = 0 ∧ k < 213 then nI (a k) else (if c = K ∧ y = 0 ∧ h = 0 ∧ k < n then nI (f k) else μ.1 c y h k))
  split <;> split <;> first | rfl | (rename_i p q; exact absurd (p.1.symm.trans q.1) hK)
