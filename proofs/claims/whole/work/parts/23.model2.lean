/-! SUMS, FIRST PLACES, STATES -/
def nT (f : Nat → Nat) (k : Nat) : Nat → Nat
  | 0 => 0
  | j + 1 => f k + nT f (k + 1) j
def up (a : Nat → Nat) (k v : Nat) : Nat → Nat := fun j => if j = k then v else a j
theorem up_at {a : Nat → Nat} {k v : Nat} : up a k v k = v := if_pos rfl
theorem up_ne {a : Nat → Nat} {k v j : Nat} (h : j ≠ k) : up a k v j = a j := if_neg h
theorem nT_le {f : Nat → Nat} {B : Nat} : ∀ {j k : Nat}, (∀ i, k ≤ i → i < k + j → f i ≤ B) → nT f k j ≤ j * B
  | 0, _, _ => Nat.le_of_eq (by simp [nT])
  | j + 1, k, h => by
    have h1 := h k (Nat.le_refl _) (by omega)
    have h2 := nT_le (B := B) (j := j) (k := k + 1) (fun i h1 h2 => h i (by omega) (by omega))
    show f k + nT f (k + 1) j ≤ _
    rw [Nat.succ_mul]
    omega
theorem nT_eq {f g : Nat → Nat} : ∀ {j k : Nat}, (∀ i, k ≤ i → i < k + j → f i = g i) → nT f k j = nT g k j
  | 0, _, _ => rfl
  | j + 1, k, h => by
    show f k + nT f (k + 1) j = g k + nT g (k + 1) j
    rw [h k (Nat.le_refl _) (by omega), nT_eq (j := j) (k := k + 1) (fun i h1 h2 => h i (by omega) (by omega))]
/-- the model's array holds a -/
def gA (μ : fM) (a : Nat → Nat) : fM := (fun c y h k => if c = 30 ∧ y = 0 ∧ h = 0 ∧ k < 213 then nI (a k) else μ.1 c y h k, μ.2)
theorem gA_at {μ : fM} {a : Nat → Nat} {k : Nat} (h : k < 213) : mA (gA μ a) k = nI (a k) := if_pos ⟨rfl, rfl, rfl, h⟩
theorem gA_at' {μ : fM} {a : Nat → Nat} {k : Nat} (h : k < 213) : (gA μ a).1 30 0 0 k = nI (a k) := if_pos ⟨rfl, rfl, rfl, h⟩
theorem gA_ne {μ : fM} {a : Nat → Nat} {c y h k : Nat} (hc : c ≠ 30) : (gA μ a).1 c y h k = μ.1 c y h k := if_neg (fun q => hc q.1)
theorem gA_set {μ : fM} {a : Nat → Nat} {k v : Nat} (h : k < 213) : fI (gA μ a) 30 0 0 k (nI v) = gA μ (up a k v) := by
  refine Prod.ext ?_ rfl
  funext c y h' k'
  show (if c = 30 ∧ k' = k ∧ y = 0 ∧ h' = 0 then nI v else (if c = 30 ∧ y = 0 ∧ h' = 0 ∧ k' < 213 then nI (a k') else μ.1 c y h' k')) = (if c = 30 ∧ y = 0 ∧ h' = 0 ∧ k' < 213 then nI (up a k v k') else μ.1 c y h' k')
  unfold up
  by_cases e : k' = k
  · subst e
    simp only [if_true, h, and_true, true_and]
    split <;> rename_i q
    · rfl
    · rfl
  · simp only [e, false_and, and_false, if_false]
theorem gA_fI {μ : fM} {a : Nat → Nat} {c y h k : Nat} {v : Int32} (hc : c ≠ 30) : fI (gA μ a) c y h k v = gA (fI μ c y h k v) a := by
  refine Prod.ext ?_ rfl
  funext c' y' h' k'
  show (if c' = c ∧ k' = k ∧ y' = y ∧ h' = h then v else (if c' = 30 ∧ y' = 0 ∧ h' = 0 ∧ k' < 213 then nI (a k') else μ.1 c' y' h' k')) = (if c' = 30 ∧ y' = 0 ∧ h' = 0 ∧ k' < 213 then nI (a k') else (if c' = c ∧ k' = k ∧ y' = y ∧ h' = h then v else μ.1 c' y' h' k'))
  split <;> split <;> first | rfl | (rename_i p q; exact absurd (p.1.symm.trans q.1) hc) 
theorem gA_self {μ : fM} {a : Nat → Nat} (h : ∀ k, k < 213 → μ.1 30 0 0 k = nI (a k)) : gA μ a = μ := by
  refine Prod.ext ?_ rfl
  funext c y h' k
  show (if c = 30 ∧ y = 0 ∧ h' = 0 ∧ k < 213 then nI (a k) else μ.1 c y h' k) = μ.1 c y h' k
  split
  · rename_i q
    obtain ⟨rfl, rfl, rfl, q⟩ := q
    exact (h k q).symm
  · rfl
theorem gA_fA {μ : fM} {a b : Nat → Nat} : gA (gA μ a) b = gA μ b := by
  refine Prod.ext ?_ rfl
  funext c y h' k
  show (if c = 30 ∧ y = 0 ∧ h' = 0 ∧ k < 213 then nI (b k) else (if c = 30 ∧ y = 0 ∧ h' = 0 ∧ k < 213 then nI (a k) else μ.1 c y h' k)) = _
  split
  · rename_i q; exact (if_pos q).symm
  · rename_i q; exact (if_neg q).symm
/-- what holds of every state that calls reach; u: how many modifications were done -/
abbrev hS (a : Nat → Nat) (h : Nat) : Nat := a (21 + 28 * h)
abbrev hF (a : Nat → Nat) (h : Nat) : Nat := a (21 + 28 * h + 1)
abbrev hC (a : Nat → Nat) (h : Nat) : Nat := a (21 + 28 * h + 2)
abbrev hW (a : Nat → Nat) (h : Nat) : Nat := a (21 + 28 * h + 3)
abbrev hD (a : Nat → Nat) (h k s : Nat) : Nat := a (21 + 28 * h + 4 + 2 * k + s)
abbrev hK (a : Nat → Nat) (h k : Nat) : Nat := a (21 + 28 * h + 20 + k)
abbrev aT (a : Nat → Nat) (k : Nat) : Nat := a (5 + k)
abbrev aS (a : Nat → Nat) (k : Nat) : Nat := a (17 + k)
abbrev oI (a : Nat → Nat) (k : Nat) : Nat := a (189 + 4 * k)
abbrev oF (a : Nat → Nat) (k : Nat) : Nat := a (189 + 4 * k + 1)
abbrev oH (a : Nat → Nat) (k : Nat) : Nat := a (189 + 4 * k + 2)
abbrev oC (a : Nat → Nat) (k : Nat) : Nat := a (189 + 4 * k + 3)
def OKA (u : Nat) (a : Nat → Nat) : Prop :=
  (u ≤ 6200) ∧
  (a 0 ≤ 6) ∧
  (a 1 ≤ 99 * u) ∧
  (a 2 ≤ 6) ∧
  (a 3 ≤ u) ∧
  (a 4 ≤ 999 * u) ∧
  (∀ k, k < 12 → aT a k ≤ 50) ∧
  (∀ k, k < 4 → aS a k ≤ 8) ∧
  (∀ h, h < 6 → hS a h ≤ 3) ∧
  (∀ h, h < 6 → hF a h ≤ 8) ∧
  (∀ h, h < 6 → hC a h ≤ 999) ∧
  (∀ h, h < 6 → hW a h ≤ 63 * a 1) ∧
  (∀ h k s, h < 6 → k < 8 → s < 2 → hD a h k s ≤ 30) ∧
  (∀ h k, h < 6 → k < 7 → hK a h k ≤ 9) ∧
  (∀ k, k < 6 → oI a k ≤ u) ∧
  (∀ k, k < 6 → oF a k ≤ 8) ∧
  (∀ k, k < 6 → oH a k ≤ 999) ∧
  (∀ k, k < 6 → oC a k ≤ 999)
theorem OKA.u6 {u : Nat} {a : Nat → Nat} (O : OKA u a) : u ≤ 6200 := O.1
theorem OKA.hulls {u : Nat} {a : Nat → Nat} (O : OKA u a) : a 0 ≤ 6 := O.2.1
theorem OKA.hour {u : Nat} {a : Nat → Nat} (O : OKA u a) : a 1 ≤ 99 * u := O.2.2.1
theorem OKA.ords {u : Nat} {a : Nat → Nat} (O : OKA u a) : a 2 ≤ 6 := O.2.2.2.1
theorem OKA.next {u : Nat} {a : Nat → Nat} (O : OKA u a) : a 3 ≤ u := O.2.2.2.2.1
theorem OKA.paid {u : Nat} {a : Nat → Nat} (O : OKA u a) : a 4 ≤ 999 * u := O.2.2.2.2.2.1
theorem OKA.tide {u : Nat} {a : Nat → Nat} (O : OKA u a) : ∀ k, k < 12 → aT a k ≤ 50 := O.2.2.2.2.2.2.1
theorem OKA.slip {u : Nat} {a : Nat → Nat} (O : OKA u a) : ∀ k, k < 4 → aS a k ≤ 8 := O.2.2.2.2.2.2.2.1
theorem OKA.st {u : Nat} {a : Nat → Nat} (O : OKA u a) : ∀ h, h < 6 → hS a h ≤ 3 := O.2.2.2.2.2.2.2.2.1
theorem OKA.fr {u : Nat} {a : Nat → Nat} (O : OKA u a) : ∀ h, h < 6 → hF a h ≤ 8 := O.2.2.2.2.2.2.2.2.2.1
theorem OKA.cg {u : Nat} {a : Nat → Nat} (O : OKA u a) : ∀ h, h < 6 → hC a h ≤ 999 := O.2.2.2.2.2.2.2.2.2.2.1
theorem OKA.wt {u : Nat} {a : Nat → Nat} (O : OKA u a) : ∀ h, h < 6 → hW a h ≤ 63 * a 1 := O.2.2.2.2.2.2.2.2.2.2.2.1
theorem OKA.wd {u : Nat} {a : Nat → Nat} (O : OKA u a) : ∀ h k s, h < 6 → k < 8 → s < 2 → hD a h k s ≤ 30 := O.2.2.2.2.2.2.2.2.2.2.2.2.1
theorem OKA.ck {u : Nat} {a : Nat → Nat} (O : OKA u a) : ∀ h k, h < 6 → k < 7 → hK a h k ≤ 9 := O.2.2.2.2.2.2.2.2.2.2.2.2.2.1
theorem OKA.oi {u : Nat} {a : Nat → Nat} (O : OKA u a) : ∀ k, k < 6 → oI a k ≤ u := O.2.2.2.2.2.2.2.2.2.2.2.2.2.2.1
theorem OKA.fo {u : Nat} {a : Nat → Nat} (O : OKA u a) : ∀ k, k < 6 → oF a k ≤ 8 := O.2.2.2.2.2.2.2.2.2.2.2.2.2.2.2.1
theorem OKA.oh {u : Nat} {a : Nat → Nat} (O : OKA u a) : ∀ k, k < 6 → oH a k ≤ 999 := O.2.2.2.2.2.2.2.2.2.2.2.2.2.2.2.2.1
theorem OKA.oc {u : Nat} {a : Nat → Nat} (O : OKA u a) : ∀ k, k < 6 → oC a k ≤ 999 := O.2.2.2.2.2.2.2.2.2.2.2.2.2.2.2.2.2
def hDry (a : Nat → Nat) (h : Nat) : Nat := hC a h + nT (fun k => hD a h k 0 + hD a h k 1) 0 (hF a h)
def hWgt (a : Nat → Nat) (h : Nat) : Nat := hDry a h + hW a h
def hWide (a : Nat → Nat) (h : Nat) : Nat := nT (fun k => hD a h k 0 + hD a h k 1 + hD a h (k + 1) 0 + hD a h (k + 1) 1) 0 (hF a h - 1)
theorem hDry_le {u : Nat} {a : Nat → Nat} (O : OKA u a) {h : Nat} (hh : h < 6) : hDry a h ≤ 1479 := by
  have h1 := O.cg h hh
  have h2 := O.fr h hh
  have h3 : nT (fun k => hD a h k 0 + hD a h k 1) 0 (hF a h) ≤ hF a h * 60 := nT_le fun i _ hi => by
    have h4 := O.wd h i 0 hh (by omega) (by decide)
    have h5 := O.wd h i 1 hh (by omega) (by decide)
    show hD a h i 0 + hD a h i 1 ≤ 60
    omega
  unfold hDry
  omega
theorem hWgt_le {u : Nat} {a : Nat → Nat} (O : OKA u a) {h : Nat} (hh : h < 6) : hWgt a h ≤ 40000000 := by
  have h1 := O.wt h hh
  have h2 := hDry_le O hh
  have h3 := O.hour
  have h4 := O.u6
  unfold hWgt
  omega
theorem hWide_le {u : Nat} {a : Nat → Nat} (O : OKA u a) {h : Nat} (hh : h < 6) : hWide a h ≤ 840 := by
  have h2 := O.fr h hh
  have h3 : hWide a h ≤ (hF a h - 1) * 120 := nT_le fun i _ hi => by
    have h4 := O.wd h i 0 hh (by omega) (by decide)
    have h5 := O.wd h i 1 hh (by omega) (by decide)
    have h6 := O.wd h (i + 1) 0 hh (by omega) (by decide)
    have h7 := O.wd h (i + 1) 1 hh (by omega) (by decide)
    show hD a h i 0 + hD a h i 1 + hD a h (i + 1) 0 + hD a h (i + 1) 1 ≤ 120
    omega
  omega
