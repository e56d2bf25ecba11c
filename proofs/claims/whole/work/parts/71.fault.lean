/-! WHAT STANDS AGAINST A MODIFICATION: the class's numbers of faults, by kind and by the model's number -/
def fc (k t : Nat) : Nat := match k with
  | 0 => 3
  | 1 => t
  | 2 => if t = 1 then 1 else 3
  | 3 => t
  | 4 => if t = 1 then 1 else if t = 2 then 3 else 4
  | 5 => if t = 1 then 1 else 3
  | 6 => t
  | 7 => 2
  | 8 => 2
  | 9 => if t = 1 then 2 else 3
  | 10 => if t = 1 then 5 else if t = 2 then 1 else 3
  | _ => 2
def fN (k : Nat) : qR → Nat
  | .inl t => fc k t
  | .inr _ => 0
def sp (k : Nat) (a : Nat → Nat) (x y z : Int32) : qR × (Nat → Nat) := match k with
  | 0 => sHull a
  | 1 => sFrame a x y z
  | 2 => sMirror a x
  | 3 => sCargo a x y
  | 4 => sLaunch a x
  | 5 => sCaulk a x y
  | 6 => sPump a x y
  | 7 => sHours a x
  | 8 => sTide a x y
  | 9 => sOrder a x y z
  | 10 => sDeliver a x y
  | _ => sSlip a x y
def fU (a : Nat → Nat) (x : Int32) (lo hi : Nat) : Nat := if okH a x then (if lo ≤ hS a (xN x) ∧ hS a (xN x) ≤ hi then 0 else 3) else 1
theorem c_fUnless {μ : fM} {u lo hi : Nat} {a : Nat → Nat} (Y : YR μ 0 a) (O : OKA u a) (x : Int32) (hl : lo < 10) (hh : hi < 10) : sX6_faultUnlessIn [vR 6 0 0, vI x, vI (nI lo), vI (nI hi)] μ = some (.inl (some (vI (nI (fU a x lo hi)))), μ) := by
  have h6 := O.hulls
  refine fsemV_of (Nat.le_of_ble_eq_true rfl) ?_
  unfold fU
  by_cases q : okH a x
  · rw [if_pos q]
    obtain ⟨h, hh', rfl⟩ := nI_ix (by omega) q.1 q.2
    have hs := (Y.hv (h := h) (by omega)).2.1
    have b2 := O.st h (by omega)
    have hc : sX7_isFromTo [vI (μ.1 1 0 (nI h).toNatClampNeg 4), vI (nI lo), vI (nI hi)] μ = some (.inl (some (vI (bI (nI lo ≤ nI (hS a h) ∧ nI (hS a h) ≤ nI hi)))), μ) := by
      rw [nI_clamp (by omega), hs]
      exact c_isFromTo (nI (hS a h)) (nI lo) (nI hi) μ
    rw [xN, nI_clamp (by omega)]
    refine fE_call (c_hasHull Y (nI h)) 3 (fun _ => rfl) ?_
    refine fE_neg (fun p => bI_0.mp p q) 1 (fun _ => rfl) ?_
    refine fE_pos (by refine g_in (k := h) ?_ (show h < 6 from by omega) (show 6 < 2 ^ 31 from by decide); first | rfl | (simp (disch := omega) only [fLit, nI_add, pk_mul, pk_rem, pk_sub, nI_clamp]; done)) 4 (fun _ => rfl) ?_
    refine fE_call (hc) 4 (fun _ => rfl) ?_
    refine fE_ite 1 (fun _ => rfl) (fun r => ?_) (fun r => ?_)
    · skip
      have r := bI_0.mp r
      rw [if_neg (fun p => r ⟨nI_le p.1 (by omega), nI_le p.2 (by omega)⟩)]
      exact fE_ret 2 (fun _ => rfl)
    · skip
      have r := bI_n.mp r
      rw [if_pos ⟨(nI_leI (by omega) (by omega)).mp r.1, (nI_leI (by omega) (by omega)).mp r.2⟩]
      exact fE_ret 3 (fun _ => rfl)
  · rw [if_neg q]
    refine fE_call (c_hasHull Y x) 3 (fun _ => rfl) ?_
    refine fE_pos (bI_0.mpr q) 1 (fun _ => rfl) ?_
    exact fE_ret 2 (fun _ => rfl)
theorem c_fFrame {μ : fM} {u : Nat} {a : Nat → Nat} (Y : YR μ 0 a) (O : OKA u a) (x l r : Int32) : sX6_faultOfFrame [vR 6 0 0, vI x, vI l, vI r] μ = some (.inl (some (vI (nI (fN 1 (sFrame a x l r).1)))), μ) := by
  have h6 := O.hulls
  refine fsemV_of (Nat.le_of_ble_eq_true rfl) ?_
  unfold sFrame
  by_cases q : okH a x
  · rw [if_pos q]
    obtain ⟨h, hh', rfl⟩ := nI_ix (by omega) q.1 q.2
    have H := Y.hv (h := h) (by omega)
    have hs := H.2.1
    have hf := H.1
    have b1 := O.fr h (by omega)
    have b2 := O.st h (by omega)
    rw [xN, nI_clamp (by omega)]
    refine fE_call (c_hasHull Y (nI h)) 3 (fun _ => rfl) ?_
    refine fE_neg (fun p => bI_0.mp p q) 1 (fun _ => rfl) ?_
    refine fE_call (c_isFromTo l 1 30 μ) 4 (fun _ => rfl) ?_
    refine fE_ite 1 (fun _ => rfl) (fun c => ?_) (fun c => ?_)
    · skip
      have c : ¬ inR l 1 30 := bI_0.mp c
      rw [if_neg (fun p => c p.1)]
      exact fE_ret 2 (fun _ => rfl)
    · skip
      have c : inR l 1 30 := bI_n.mp c
      refine fE_call (c_isFromTo r 1 30 μ) 4 (fun _ => rfl) ?_
      refine fE_ite 1 (fun _ => rfl) (fun d => ?_) (fun d => ?_)
      · skip
        have d : ¬ inR r 1 30 := bI_0.mp d
        rw [if_neg (fun p => d p.2)]
        exact fE_ret 2 (fun _ => rfl)
      · skip
        have d : inR r 1 30 := bI_n.mp d
        rw [if_pos ⟨c, d⟩]
        refine fE_pos (by refine g_in (k := h) ?_ (show h < 6 from by omega) (show 6 < 2 ^ 31 from by decide); first | rfl | (simp (disch := omega) only [fLit, nI_add, pk_mul, pk_rem, pk_sub, nI_clamp]; done)) 4 (fun _ => rfl) ?_
        refine fE_ite 2 (fun _ => rfl) (fun e => ?_) (fun e => ?_)
        · skip
          change μ.1 1 0 (nI h).toNatClampNeg 4 = 0 at e
          rw [nI_clamp (by omega), hs] at e
          have e := (nI_eq (b := 0) (by omega) (by omega)).mp e
          refine fE_pos (by refine g_in (k := h) ?_ (show h < 6 from by omega) (show 6 < 2 ^ 31 from by decide); first | rfl | (simp (disch := omega) only [fLit, nI_add, pk_mul, pk_rem, pk_sub, nI_clamp]; done)) 4 (fun _ => rfl) ?_
          refine fE_ite 3 (fun _ => rfl) (fun f => ?_) (fun f => ?_)
          · skip
            change nI 8 ≤ μ.1 1 0 (nI h).toNatClampNeg 3 at f
            rw [nI_clamp (by omega), hf] at f
            have f := (nI_leI (by omega) (by omega)).mp f
            rw [if_neg (by omega)]
            exact fE_ret 2 (fun _ => rfl)
          · skip
            change ¬ nI 8 ≤ μ.1 1 0 (nI h).toNatClampNeg 3 at f
            rw [nI_clamp (by omega), hf] at f
            have f : ¬ hF a h = 8 := fun p => f (nI_le (by omega) (by omega))
            rw [if_pos ⟨e, f⟩]
            exact fE_ret 3 (fun _ => rfl)
        · skip
          change ¬ μ.1 1 0 (nI h).toNatClampNeg 4 = 0 at e
          rw [nI_clamp (by omega), hs] at e
          rw [if_neg (fun p => e (congrArg nI p.1))]
          exact fE_ret 2 (fun _ => rfl)
  · rw [if_neg q]
    refine fE_call (c_hasHull Y x) 3 (fun _ => rfl) ?_
    refine fE_pos (bI_0.mpr q) 1 (fun _ => rfl) ?_
    exact fE_ret 2 (fun _ => rfl)
def fUn (a : Nat → Nat) (x n : Int32) (least lo : Nat) : Nat := if okH a x ∧ ¬ inR n least 999 then 2 else fU a x lo 1
theorem c_fUnits {μ : fM} {u lo least : Nat} {a : Nat → Nat} (Y : YR μ 0 a) (O : OKA u a) (x n : Int32) (hl : lo < 10) : sX6_faultOfUnits [vR 6 0 0, vI x, vI n, vI (nI least), vI (nI lo)] μ = some (.inl (some (vI (nI (fUn a x n least lo)))), μ) := by
  refine fsemV_of (Nat.le_of_ble_eq_true rfl) ?_
  unfold fUn
  refine fE_call (c_hasHull Y x) 3 (fun _ => rfl) ?_
  refine fE_ite 1 (fun _ => rfl) (fun q => ?_) (fun q => ?_)
  · skip
    have q := bI_0.mp q
    rw [if_neg (fun p => q p.1)]
    refine fE_call (c_fUnless (hi := 1) Y O x hl (by omega)) 5 (fun _ => rfl) ?_
    exact fE_ret 1 (fun _ => rfl)
  · skip
    have q := bI_n.mp q
    refine fE_call (c_isFromTo n (nI least) 999 μ) 4 (fun _ => rfl) ?_
    refine fE_ite 1 (fun _ => rfl) (fun r => ?_) (fun r => ?_)
    · skip
      have r : ¬ inR n least 999 := bI_0.mp r
      rw [if_pos ⟨q, r⟩]
      exact fE_ret 2 (fun _ => rfl)
    · skip
      have r : inR n least 999 := bI_n.mp r
      rw [if_neg (fun p => p.2 r)]
      refine fE_call (c_fUnless (hi := 1) Y O x hl (by omega)) 5 (fun _ => rfl) ?_
      exact fE_ret 1 (fun _ => rfl)
theorem dI_pos {d t : Nat} (hd : d < 41) (ht : t < 2 ^ 30) : (dI d ≤ nI t) ↔ d ≤ t := by
  rw [show dI d = nI d from if_neg (by omega)]
  exact nI_leI (by omega) (by omega)
theorem c_refusal {μ : fM} {u h : Nat} {a : Nat → Nat} (Y : YR μ 0 a) (O : OKA u a) (hh : h < 6) : sX6_refusalOf [vR 6 0 0, vI (nI h)] μ = some (.inl (some (vI (nI (hWhy a h)))), μ) := by
  have h1 := O.hour
  have h2 := O.u6
  have H := Y.hv hh
  have B := O.hb hh
  have hf := H.1
  have b1 := B.1
  have hd : hDr a h (hWgt a h) ≤ 41 := dDr_le
  have ht := O.tide (a 1 % 12) (by omega)
  have ct := c_tideIn Y (t := 0) (by omega)
  rw [Nat.add_zero] at ct
  refine fsemV_of (Nat.le_of_ble_eq_true rfl) ?_
  unfold hWhy
  have hc : sX1_triedDraught [vR 1 0 (nI h).toNatClampNeg] μ = some (.inl (some (vI (dI (hDr a h (hWgt a h))))), μ) := by
    rw [nI_clamp (by omega)]
    exact c_tried H B
  refine fE_pos (by refine g_in (k := h) ?_ (show h < 6 from by omega) (show 6 < 2 ^ 31 from by decide); first | rfl | (simp (disch := omega) only [fLit, nI_add, pk_mul, pk_rem, pk_sub, nI_clamp]; done)) 4 (fun _ => rfl) ?_
  refine fE_ite 3 (fun _ => rfl) (fun q => ?_) (fun q => ?_)
  · skip
    change nI 2 ≤ μ.1 1 0 (nI h).toNatClampNeg 3 at q
    rw [nI_clamp (by omega), hf] at q
    have q := (nI_leI (by omega) (by omega)).mp q
    rw [if_neg (by omega)]
    refine fE_pos (by refine g_in (k := h) ?_ (show h < 6 from by omega) (show 6 < 2 ^ 31 from by decide); first | rfl | (simp (disch := omega) only [fLit, nI_add, pk_mul, pk_rem, pk_sub, nI_clamp]; done)) 4 (fun _ => rfl) ?_
    refine fE_call (hc) 1 (fun _ => rfl) ?_
    refine fE_ite 4 (fun _ => rfl) (fun r => ?_) (fun r => ?_)
    · skip
      have r := (dI_m1 hd).mp r
      rw [if_pos r]
      exact fE_ret 2 (fun _ => rfl)
    · skip
      have r : ¬ hDr a h (hWgt a h) = 41 := fun p => r ((dI_m1 hd).mpr p)
      rw [if_neg r]
      refine fE_call (ct) 4 (fun _ => rfl) ?_
      refine fE_ite 1 (fun _ => rfl) (fun s => ?_) (fun s => ?_)
      · skip
        have s := (dI_pos (by omega) (by omega)).mp s
        rw [if_pos s]
        exact fE_ret 2 (fun _ => rfl)
      · skip
        have s : ¬ hDr a h (hWgt a h) ≤ aT a (a 1 % 12) := fun p => s ((dI_pos (by omega) (by omega)).mpr p)
        rw [if_neg s]
        exact fE_ret 3 (fun _ => rfl)
  · skip
    change ¬ nI 2 ≤ μ.1 1 0 (nI h).toNatClampNeg 3 at q
    rw [nI_clamp (by omega), hf] at q
    have q : hF a h < 2 := Nat.not_le.mp fun p => q (nI_le p (by omega))
    rw [if_pos q]
    exact fE_ret 2 (fun _ => rfl)
theorem hWhy_le {a : Nat → Nat} {h : Nat} : hWhy a h ≤ 3 := by
  unfold hWhy
  split
  · omega
  · split
    · omega
    · split <;> omega
theorem c_fLaunch {μ : fM} {u : Nat} {a : Nat → Nat} (Y : YR μ 0 a) (O : OKA u a) (x : Int32) : sX6_faultOfLaunch [vR 6 0 0, vI x] μ = some (.inl (some (vI (nI (fN 4 (sLaunch a x).1)))), μ) := by
  have h6 := O.hulls
  have hu := c_fUnless (lo := 0) (hi := 0) Y O x (by omega) (by omega)
  refine fsemV_of (Nat.le_of_ble_eq_true rfl) ?_
  unfold sLaunch
  unfold fU at hu
  by_cases q : okH a x
  · rw [if_pos q] at hu ⊢
    obtain ⟨h, hh', rfl⟩ := nI_ix (by omega) q.1 q.2
    rw [xN, nI_clamp (by omega)] at hu ⊢
    have hw := hWhy_le (a := a) (h := h)
    by_cases e : hS a h = 0
    · rw [if_pos e]
      rw [if_pos (by omega)] at hu
      refine fE_call (hu) 5 (fun _ => rfl) ?_
      refine fE_call (c_refusal Y O (h := h) (by omega)) 6 (fun _ => rfl) ?_
      refine fE_ite 1 (fun _ => rfl) (fun r => ?_) (fun r => ?_)
      · skip
        have r := (nI_eq (b := 0) (by omega) (by omega)).mp r
        rw [if_pos r]
        exact fE_ret 2 (fun _ => rfl)
      · skip
        have r : ¬ hWhy a h = 0 := fun p => r (congrArg nI p)
        rw [if_neg r]
        exact fE_ret 2 (fun _ => rfl)
    · rw [if_neg e]
      rw [if_neg (by omega)] at hu
      refine fE_call (hu) 5 (fun _ => rfl) ?_
      exact fE_ret 5 (fun _ => rfl)
  · rw [if_neg q] at hu ⊢
    refine fE_call (hu) 5 (fun _ => rfl) ?_
    exact fE_ret 5 (fun _ => rfl)
theorem c_fCaulk {μ : fM} {u : Nat} {a : Nat → Nat} (Y : YR μ 0 a) (O : OKA u a) (x y : Int32) : sX6_faultOfCaulking [vR 6 0 0, vI x, vI y] μ = some (.inl (some (vI (nI (fN 5 (sCaulk a x y).1)))), μ) := by
  have h6 := O.hulls
  have hu := c_fUnless (lo := 0) (hi := 1) Y O x (by omega) (by omega)
  refine fsemV_of (Nat.le_of_ble_eq_true rfl) ?_
  unfold sCaulk
  unfold fU at hu
  by_cases q : okH a x
  · rw [if_pos q] at hu
    obtain ⟨h, hh', rfl⟩ := nI_ix (by omega) q.1 q.2
    have hx : xN (nI h) = h := nI_clamp (by omega)
    rw [hx] at hu ⊢
    have hc : sX1_hasSeam [vR 1 0 (nI h).toNatClampNeg, vI y] μ = some (.inl (some (vI (bI (0 ≤ y ∧ y < nI (hF a h - 1))))), μ) := by
      rw [nI_clamp (by omega)]
      exact c_hasSeam (Y.hv (h := h) (by omega)) (O.hb (by omega)) y
    refine fE_call (c_hasHull Y (nI h)) 3 (fun _ => rfl) ?_
    refine fE_neg (fun p => bI_0.mp p q) 1 (fun _ => rfl) ?_
    refine fE_pos (by refine g_in (k := h) ?_ (show h < 6 from by omega) (show 6 < 2 ^ 31 from by decide); first | rfl | (simp (disch := omega) only [fLit, nI_add, pk_mul, pk_rem, pk_sub, nI_clamp]; done)) 4 (fun _ => rfl) ?_
    refine fE_call (hc) 2 (fun _ => rfl) ?_
    refine fE_ite 1 (fun _ => rfl) (fun r => ?_) (fun r => ?_)
    · skip
      have r := bI_0.mp r
      rw [if_neg (fun p => r p.2)]
      exact fE_ret 2 (fun _ => rfl)
    · skip
      have r := bI_n.mp r
      rw [if_pos ⟨q, r⟩]
      refine fE_call (hu) 5 (fun _ => rfl) ?_
      refine fE_ret2 1 (fun _ => rfl) ?_
      by_cases e : hS a h ≤ 1
      · rw [if_pos e, if_pos (by omega)]
        rfl
      · rw [if_neg e, if_neg (by omega)]
        rfl
  · rw [if_neg q] at hu
    rw [if_neg (fun p => q p.1)]
    refine fE_call (c_hasHull Y x) 3 (fun _ => rfl) ?_
    refine fE_pos (bI_0.mpr q) 1 (fun _ => rfl) ?_
    refine fE_call (hu) 5 (fun _ => rfl) ?_
    exact fE_ret 1 (fun _ => rfl)
theorem c_fOrder {μ : fM} {u : Nat} {a : Nat → Nat} (Y : YR μ 0 a) (O : OKA u a) (x y z : Int32) : sX6_faultOfOrder [vR 6 0 0, vI x, vI y, vI z] μ = some (.inl (some (vI (nI (fN 9 (sOrder a x y z).1)))), μ) := by
  have o6 := O.ords
  have hc := Y.count
  refine fsemV_of (Nat.le_of_ble_eq_true rfl) ?_
  unfold sOrder
  refine fE_call (c_isFromTo x 2 8 μ) 4 (fun _ => rfl) ?_
  refine fE_ite 1 (fun _ => rfl) (fun c => ?_) (fun c => ?_)
  · skip
    have c : ¬ inR x 2 8 := bI_0.mp c
    rw [if_neg (fun p => c p.1)]
    exact fE_ret 2 (fun _ => rfl)
  · skip
    have c : inR x 2 8 := bI_n.mp c
    refine fE_call (c_isFromTo y 0 999 μ) 4 (fun _ => rfl) ?_
    refine fE_ite 1 (fun _ => rfl) (fun d => ?_) (fun d => ?_)
    · skip
      have d : ¬ inR y 0 999 := bI_0.mp d
      rw [if_neg (fun p => d p.2.1)]
      exact fE_ret 2 (fun _ => rfl)
    · skip
      have d : inR y 0 999 := bI_n.mp d
      refine fE_call (c_isFromTo z 1 999 μ) 4 (fun _ => rfl) ?_
      refine fE_ite 1 (fun _ => rfl) (fun e => ?_) (fun e => ?_)
      · skip
        have e : ¬ inR z 1 999 := bI_0.mp e
        rw [if_neg (fun p => e p.2.2)]
        exact fE_ret 2 (fun _ => rfl)
      · skip
        have e : inR z 1 999 := bI_n.mp e
        rw [if_pos ⟨c, d, e⟩]
        refine fE_ite 5 (fun _ => rfl) (fun f => ?_) (fun f => ?_)
        · skip
          change nI 6 ≤ μ.1 2 0 0 5 at f
          rw [hc] at f
          have f := (nI_leI (by omega) (by omega)).mp f
          rw [if_pos (by omega)]
          exact fE_ret 2 (fun _ => rfl)
        · skip
          change ¬ nI 6 ≤ μ.1 2 0 0 5 at f
          rw [hc] at f
          have f : ¬ a 2 = 6 := fun p => f (nI_le (by omega) (by omega))
          rw [if_neg f]
          exact fE_ret 3 (fun _ => rfl)
theorem dF_lt {n d : Nat} (h : d ≤ n) (hn : n < 2 ^ 30) : (0 ≤ dF n d) ↔ ¬ d = n := by
  unfold dF
  split
  · rename_i e
    exact ⟨fun p => absurd p (by decide), fun p => absurd e p⟩
  · rename_i e
    exact ⟨fun _ => e, fun _ => by rw [fLit]; exact nI_le (by omega) (by omega)⟩
theorem c_fDeliver {μ : fM} {u : Nat} {a : Nat → Nat} (Y : YR μ 0 a) (O : OKA u a) (x y : Int32) : sX6_faultOfDelivery [vR 6 0 0, vI x, vI y] μ = some (.inl (some (vI (nI (fN 10 (sDeliver a x y).1)))), μ) := by
  have h6 := O.hulls
  have o6 := O.ords
  have hp : oP a x ≤ a 2 := oP_le
  have hu := c_fUnless (lo := 1) (hi := 1) Y O y (by omega) (by omega)
  refine fsemV_of (Nat.le_of_ble_eq_true rfl) ?_
  unfold sDeliver
  unfold fU at hu
  refine fE_call (c_pos Y O x) 4 (fun _ => rfl) ?_
  refine fE_ite 3 (fun _ => rfl) (fun p => ?_) (fun p => ?_)
  · skip
    have p := (dF_lt hp (by omega)).mp p
    rw [if_neg p]
    have hf := Y.fr (k := oP a x) (by omega)
    have fo := O.fo (oP a x) (by omega)
    rw [dF_ne p]
    by_cases q : okH a y
    · skip
      rw [if_pos q] at hu ⊢
      obtain ⟨h, hh', rfl⟩ := nI_ix (by omega) q.1 q.2
      have hx : xN (nI h) = h := nI_clamp (by omega)
      rw [hx] at hu ⊢
      have H := Y.hv (h := h) (by omega)
      have hff := H.1
      have b1 := O.fr h (by omega)
      by_cases e : hS a h = 1
      · skip
        rw [if_pos (by omega)] at hu
        refine fE_call (hu) 5 (fun _ => rfl) ?_
        refine fE_pos (by refine g_in (k := h) ?_ (show h < 6 from by omega) (show 6 < 2 ^ 31 from by decide); first | rfl | (simp (disch := omega) only [fLit, nI_add, pk_mul, pk_rem, pk_sub, nI_clamp]; done)) 7 (fun _ => rfl) ?_
        refine fE_pos (by refine g_in (k := oP a x) ?_ (show oP a x < 6 from by omega) (show 6 < 2 ^ 31 from by decide); first | rfl | (simp (disch := omega) only [fLit, nI_add, pk_mul, pk_rem, pk_sub, nI_clamp]; done)) 6 (fun _ => rfl) ?_
        refine fE_ite 1 (fun _ => rfl) (fun r => ?_) (fun r => ?_)
        · skip
          change μ.1 1 0 (nI h).toNatClampNeg 3 = μ.1 17 0 0 (nI (oP a x)).toNatClampNeg at r
          rw [nI_clamp (by omega), nI_clamp (by omega), hff, hf] at r
          have r := (nI_eq (by omega) (by omega)).mp r
          rw [if_pos ⟨e, r⟩]
          exact fE_ret 2 (fun _ => rfl)
        · skip
          change ¬ μ.1 1 0 (nI h).toNatClampNeg 3 = μ.1 17 0 0 (nI (oP a x)).toNatClampNeg at r
          rw [nI_clamp (by omega), nI_clamp (by omega), hff, hf] at r
          rw [if_neg (fun p => r (congrArg nI p.2))]
          exact fE_ret 2 (fun _ => rfl)
      · skip
        rw [if_neg (by omega)] at hu
        rw [if_neg (fun p => e p.1)]
        refine fE_call (hu) 5 (fun _ => rfl) ?_
        exact fE_ret 5 (fun _ => rfl)
    · skip
      rw [if_neg q] at hu ⊢
      refine fE_call (hu) 5 (fun _ => rfl) ?_
      exact fE_ret 5 (fun _ => rfl)
  · skip
    have p : oP a x = a 2 := Decidable.byContradiction fun e => p ((dF_lt hp (by omega)).mpr e)
    rw [if_pos p]
    exact fE_ret 2 (fun _ => rfl)
theorem c_faultOf {μ : fM} {u k : Nat} {a : Nat → Nat} (Y : YR μ 0 a) (O : OKA u a) (hk : k < 12) (x y z : Int32) : sX6_faultOf [vR 6 0 0, vI (nI k), vI x, vI y, vI z] μ = some (.inl (some (vI (nI (fN k (sp k a x y z).1)))), μ) := by
  have h6 := O.hulls
  refine fsemV_of (Nat.le_of_ble_eq_true rfl) ?_
  match k, hk with
  | 0, _ =>
    have hb := Y.begun
    show fEnds _ (.inl (some (vI (nI (fN 0 (sHull a).1)))), μ)
    unfold sHull
    refine fE_ite 6 (fun _ => rfl) (fun q => ?_) (fun q => ?_)
    · skip
      change nI 6 ≤ μ.1 6 0 0 4 at q
      rw [hb] at q
      have q := (nI_leI (by omega) (by omega)).mp q
      rw [if_pos (by omega)]
      exact fE_ret 2 (fun _ => rfl)
    · skip
      change ¬ nI 6 ≤ μ.1 6 0 0 4 at q
      rw [hb] at q
      rw [if_neg (fun p => q (nI_le (by omega) (by omega)))]
      exact fE_ret 3 (fun _ => rfl)
  | 1, _ =>
    refine fE_call (c_fFrame Y O x y z) 7 (fun _ => rfl) ?_
    exact fE_ret 1 (fun _ => rfl)
  | 2, _ =>
    have hu := c_fUnless (lo := 0) (hi := 0) Y O x (by omega) (by omega)
    refine fE_call (hu) 7 (fun _ => rfl) ?_
    refine fE_ret2 1 (fun _ => rfl) ?_
    show (Sum.inl (some (vI (nI (fU a x 0 0)))), μ) = (Sum.inl (some (vI (nI (fN 2 (sMirror a x).1)))), μ)
    unfold fU sMirror
    by_cases q : okH a x
    · rw [if_pos q, if_pos q]
      by_cases e : hS a (xN x) = 0
      · rw [if_pos e, if_pos (by omega)]
        obtain ⟨v, hv⟩ := sMir_in (h := xN x) (j := hF a (xN x)) (k := 0) (n := 0) (a := a)
        rw [hv]
        rfl
      · rw [if_neg e, if_neg (by omega)]
        rfl
    · rw [if_neg q, if_neg q]
      rfl
  | 3, _ =>
    have hu := c_fUnits (least := 0) (lo := 0) Y O x y (by omega)
    refine fE_call (hu) 8 (fun _ => rfl) ?_
    refine fE_ret2 1 (fun _ => rfl) ?_
    show (Sum.inl (some (vI (nI (fUn a x y 0 0)))), μ) = (Sum.inl (some (vI (nI (fN 3 (sCargo a x y).1)))), μ)
    unfold fUn fU sCargo
    by_cases q : okH a x
    · rw [if_pos q, if_pos q]
      by_cases r : inR y 0 999
      · rw [if_neg (fun p => p.2 r), if_pos r]
        by_cases e : hS a (xN x) ≤ 1
        · rw [if_pos e, if_pos (by omega)]
          rfl
        · rw [if_neg e, if_neg (by omega)]
          rfl
      · rw [if_pos ⟨q, r⟩, if_neg r]
        rfl
    · rw [if_neg (fun p => q p.1), if_neg q, if_neg q]
      rfl
  | 4, _ =>
    refine fE_call (c_fLaunch Y O x) 5 (fun _ => rfl) ?_
    exact fE_ret 1 (fun _ => rfl)
  | 5, _ =>
    refine fE_call (c_fCaulk Y O x y) 6 (fun _ => rfl) ?_
    exact fE_ret 1 (fun _ => rfl)
  | 6, _ =>
    have hu := c_fUnits (least := 1) (lo := 1) Y O x y (by omega)
    refine fE_call (hu) 8 (fun _ => rfl) ?_
    refine fE_ret2 1 (fun _ => rfl) ?_
    show (Sum.inl (some (vI (nI (fUn a x y 1 1)))), μ) = (Sum.inl (some (vI (nI (fN 6 (sPump a x y).1)))), μ)
    unfold fUn fU sPump
    by_cases q : okH a x
    · rw [if_pos q, if_pos q]
      by_cases r : inR y 1 999
      · rw [if_neg (fun p => p.2 r), if_pos r]
        by_cases e : hS a (xN x) = 1
        · rw [if_pos e, if_pos (by omega)]
          rfl
        · rw [if_neg e, if_neg (by omega)]
          rfl
      · rw [if_pos ⟨q, r⟩, if_neg r]
        rfl
    · rw [if_neg (fun p => q p.1), if_neg q, if_neg q]
      rfl
  | 7, _ =>
    show fEnds _ (.inl (some (vI (nI (fN 7 (sHours a x).1)))), μ)
    unfold sHours
    refine fE_call (c_isFromTo x 1 99 μ) 6 (fun _ => rfl) ?_
    refine fE_ite 1 (fun _ => rfl) (fun q => ?_) (fun q => ?_)
    · skip
      have q : ¬ inR x 1 99 := bI_0.mp q
      rw [if_neg q]
      exact fE_ret 2 (fun _ => rfl)
    · skip
      have q : inR x 1 99 := bI_n.mp q
      rw [if_pos q]
      obtain ⟨v, hv⟩ := rHr_in (j := xN x) (n := 0) (a := a)
      rw [hv]
      exact fE_ret 3 (fun _ => rfl)
  | 8, _ =>
    show fEnds _ (.inl (some (vI (nI (fN 8 (sTide a x y).1)))), μ)
    unfold sTide
    refine fE_call (c_isFromTo x 0 11 μ) 6 (fun _ => rfl) ?_
    refine fE_ite 1 (fun _ => rfl) (fun q => ?_) (fun q => ?_)
    · skip
      have q : ¬ inR x 0 11 := bI_0.mp q
      rw [if_neg (fun p => q p.1)]
      exact fE_ret 2 (fun _ => rfl)
    · skip
      have q : inR x 0 11 := bI_n.mp q
      refine fE_call (c_isFromTo y 0 50 μ) 4 (fun _ => rfl) ?_
      refine fE_ite 1 (fun _ => rfl) (fun r => ?_) (fun r => ?_)
      · skip
        have r : ¬ inR y 0 50 := bI_0.mp r
        rw [if_neg (fun p => r p.2)]
        exact fE_ret 2 (fun _ => rfl)
      · skip
        have r : inR y 0 50 := bI_n.mp r
        rw [if_pos ⟨q, r⟩]
        exact fE_ret 3 (fun _ => rfl)
  | 9, _ =>
    refine fE_call (c_fOrder Y O x y z) 7 (fun _ => rfl) ?_
    exact fE_ret 1 (fun _ => rfl)
  | 10, _ =>
    refine fE_call (c_fDeliver Y O x y) 6 (fun _ => rfl) ?_
    exact fE_ret 1 (fun _ => rfl)
  | 11, _ =>
    show fEnds _ (.inl (some (vI (nI (fN 11 (sSlip a x y).1)))), μ)
    unfold sSlip
    refine fE_call (c_isFromTo x 0 3 μ) 6 (fun _ => rfl) ?_
    refine fE_ite 1 (fun _ => rfl) (fun q => ?_) (fun q => ?_)
    · skip
      have q : ¬ inR x 0 3 := bI_0.mp q
      rw [if_neg (fun p => q p.1)]
      exact fE_ret 2 (fun _ => rfl)
    · skip
      have q : inR x 0 3 := bI_n.mp q
      refine fE_call (c_isFromTo y 0 8 μ) 4 (fun _ => rfl) ?_
      refine fE_ite 1 (fun _ => rfl) (fun r => ?_) (fun r => ?_)
      · skip
        have r : ¬ inR y 0 8 := bI_0.mp r
        rw [if_neg (fun p => r p.2)]
        exact fE_ret 2 (fun _ => rfl)
      · skip
        have r : inR y 0 8 := bI_n.mp r
        rw [if_pos ⟨q, r⟩]
        exact fE_ret 3 (fun _ => rfl)
