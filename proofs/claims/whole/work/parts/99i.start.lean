/-! THE START: what the memory is behind the constructors -/
def syb (y : Nat) : Nat := bif Nat.beq y 0 then 1 else bif Nat.beq y 1 then 309 else bif Nat.beq y 2 then 347 else 37 + 34 * (y - 3)
def shb (y h : Nat) : Nat := bif Nat.beq y 11 then 398 else syb y + 10 + 4 * h
/-- the place of a reference among the cells that the constructors make -/
def spos (r : Nat × Nat × Nat) : Nat := match r with
  | (c, y, h) => bif Nat.ble 30 c && Nat.ble c 39 then 373 + c else bif Nat.ble 16 c && Nat.ble c 20 then syb y + 5 + (c - 16) else bif Nat.beq c 1 then shb y h else bif Nat.ble 10 c && Nat.ble c 12 then shb y h + (c - 9) else
    bif Nat.beq c 2 then syb y + 4 else bif Nat.beq c 6 then syb y else bif Nat.beq c 13 then syb y + 1 else bif Nat.beq c 14 then syb y + 2 else bif Nat.beq c 15 then syb y + 3 else bif Nat.beq c 0 then 35 else bif Nat.beq c 29 then 36 else
    bif Nat.beq c 3 then 343 else bif Nat.ble 21 c && Nat.ble c 23 then 323 + c else bif Nat.beq c 51 then 381 else bif Nat.beq c 5 then 383 else bif Nat.beq c 27 then 384 else bif Nat.beq c 28 then 385 + h else bif Nat.beq c 4 then 394 else bif Nat.ble 24 c && Nat.ble c 26 then 371 + c else
    bif Nat.beq c 7 then 0 else bif Nat.beq c 8 then 402 else bif Nat.beq c 40 then 413 else bif Nat.beq c 41 then 414 else 1000
def wL1 : bWs := oiX7.map (bshE 0)
def wL2 : bWs := (wL1 ++ ([.inl (8, binit 8)] : bWs)).take 402 ++ oiX8.map (bshE 402)
def wL : bWs := (wL2 ++ ([.inr (3, 1, [])] : bWs)) ++ ([.inr (4, 1, [])] : bWs)
def sval (x : Option bE) (k : Nat) : Int32 := match x with
  | some (.inl q) => (match q.2.getD k none with
    | some (.inr (.inl v)) => v
    | _ => 0)
  | some (.inr q) => bnum q.2.2 k
  | none => 0
def sMm : fM := (fun c y h k => sval (wL[spos (c, y, h)]?) k, fun _ _ _ _ => 0, fun _ _ _ _ => 0)
def sfk (c y h : Nat) (fs : List (Option fV)) (k : Nat) : Bool := match fs.getD k none with
  | some (.inr (.inl _)) => Nat.ble ((fkfL.getD c []).getD k 0) 1
  | some (.inr (.inr (.inl v))) => Nat.beq ((fkfL.getD c []).getD k 0) 2 && decide (v = 0)
  | some (.inl q) => Nat.ble 3 ((fkfL.getD c []).getD k 0) && (Nat.beq q.2.1 (spos (ftgt ((frfL.getD c []).getD k (0, 0, 0, 0, 0)) y h)) && (Nat.blt (ftgt ((frfL.getD c []).getD k (0, 0, 0, 0, 0)) y h).1 50 || Nat.beq (ftgt ((frfL.getD c []).getD k (0, 0, 0, 0, 0)) y h).1 51))
  | _ => false
def schk (r : Nat × Nat × Nat) : Bool := match wL[spos r]? with
  | some (.inl q) => Nat.blt r.1 9 && (Nat.beq q.1 r.1 && (Nat.beq q.2.length (fnf r.1) && (List.range (fnf r.1)).all (sfk r.1 r.2.1 r.2.2 q.2)))
  | some (.inr q) => !(Nat.blt r.1 9) && (Nat.beq (fal r.1).1 q.1 && (Nat.beq (fal r.1).2 q.2.1 && (bif Nat.ble 5 q.1 then Nat.ble q.1 7 && (List.range q.2.1).all (fun j => match bref q.2.2 j with
      | some i => Nat.beq i (spos (fel r.1 r.2.1 j)) && Nat.blt (fel r.1 r.2.1 j).1 50
      | none => false) else true)))
  | none => false
theorem schk_all : frefs.all schk = true := by decide +kernel
theorem schk_ok {r : Nat × Nat × Nat} (h : r ∈ frefs) : schk r = true := List.all_eq_true.mp schk_all r h
theorem frefs50 : ∀ r ∈ frefs, r.1 < 50 := by decide +kernel
theorem spos_nodup : (frefs.map spos).Nodup := by decide +kernel
theorem spos_ne : ∀ r ∈ frefs, spos r ≠ 381 ∧ spos r ≠ 382 := by decide +kernel
def sGm (z b : Nat) (ad : Nat → Nat) (D : va_G) (aC : Nat → ClassId) : fG := (fun r => bif Nat.beq r.1 50 then b else bif Nat.beq r.1 52 then ad r.2.1 else z + spos r, D, aC, z)
section SSTART
variable {z b : Nat} {ad : Nat → Nat} {D : va_G} {aC : Nat → ClassId} {H : Heap}
theorem sG_at {r : Nat × Nat × Nat} (h : r.1 < 50 ∨ r.1 = 51) : (sGm z b ad D aC).1 r = z + spos r := by
  have h1 : Nat.beq r.1 50 = false := by
    cases h9 : Nat.beq r.1 50
    · rfl
    · have := Nat.eq_of_beq_eq_true h9; omega
  have h2 : Nat.beq r.1 52 = false := by
    cases h9 : Nat.beq r.1 52
    · rfl
    · have := Nat.eq_of_beq_eq_true h9; omega
  show (bif Nat.beq r.1 50 then b else bif Nat.beq r.1 52 then ad r.2.1 else z + spos r) = _
  rw [h1, h2]
  rfl
theorem sG_50 : (sGm z b ad D aC).1 (50, 0, 0) = b := rfl
theorem sG_52 {i : Nat} : (sGm z b ad D aC).1 (52, i, 0) = ad i := rfl
theorem sG_51 : (sGm z b ad D aC).1 (51, 0, 0) = z + 381 := sG_at (Or.inr rfl)
theorem sWf : fWf (sGm z b ad D aC) := by
  refine ⟨fun r hr r' hr' he => ?_, fun r hr => ?_, fun r hr => ?_, ?_⟩
  · rw [sG_at (Or.inl (frefs50 r hr)), sG_at (Or.inl (frefs50 r' hr'))] at he
    obtain ⟨i, hi⟩ := fidx hr
    obtain ⟨j, hj⟩ := fidx hr'
    have e1 : (frefs.map spos)[i]? = some (spos r) := by rw [List.getElem?_map, hi]; rfl
    have e2 : (frefs.map spos)[j]? = some (spos r) := by rw [List.getElem?_map, hj, show spos r = spos r' by omega]; rfl
    have e3 := (List.getElem?_inj (List.getElem?_eq_some_iff.mp e1).1 spos_nodup).mp (e1.trans e2.symm)
    subst e3
    exact Option.some.inj (hi.symm.trans hj)
  · rw [sG_at (Or.inl (frefs50 r hr))]
    exact Nat.le_add_right _ _
  · rw [sG_at (Or.inl (frefs50 r hr)), sG_51]
    have := (spos_ne r hr).1
    omega
  · rw [sG_51]
    exact Nat.le_add_right _ _
theorem sfk_ok {c c' y h k : Nat} {fs : List (Option fV)} (hw : wL[spos (c, y, h)]? = some (.inl (c', fs))) (hk : sfk c y h fs k = true) : ftv (sGm z b ad D aC) (ffv sMm c y h k) = bval (sGm z b ad D aC) z (fs.getD k none) := by
  unfold sfk at hk
  split at hk
  · rename_i v hv
    have h1 := Nat.le_of_ble_eq_true hk
    rw [ffv_0 (by omega), hv]
    show Value.int (sval (wL[spos (c, y, h)]?) k) = Value.int v
    rw [hw]
    show Value.int (match fs.getD k none with
      | some (.inr (.inl v)) => v
      | _ => 0) = Value.int v
    rw [hv]
  · rename_i v hv
    rw [Bool.and_eq_true, decide_eq_true_eq] at hk
    have h1 := Nat.eq_of_beq_eq_true hk.1
    rw [ffv_2 h1, hv, hk.2]
    rfl
  · rename_i q hv
    rw [Bool.and_eq_true, Bool.and_eq_true, Bool.or_eq_true] at hk
    have h1 := Nat.le_of_ble_eq_true hk.1
    have h2 := Nat.eq_of_beq_eq_true hk.2.1
    rw [ffv_3 (by omega), hv]
    show Value.ref ((sGm z b ad D aC).1 _) = Value.ref (z + q.2.1)
    rw [sG_at (by
      rcases hk.2.2 with h3 | h3
      · exact Or.inl (Nat.le_of_ble_eq_true h3)
      · exact Or.inr (Nat.eq_of_beq_eq_true h3)), h2]
  · cases hk
theorem arrV_ext {cI : ClassId} {N : Nat} {f g : Nat → Value} (h : ∀ j, j < N → f j = g j) : arrV cI N f = arrV cI N g := by
  unfold arrV
  congr 1
  apply Array.ext
  · simp
  · intro i h1 h2
    simp at h1
    simp [h i h1]
theorem sCell (hM : bM (sGm z b ad D aC) z wL H) {r : Nat × Nat × Nat} (hr : r ∈ frefs) : va_at D fcl ((sGm z b ad D aC).1 r, fcell (sGm z b ad D aC) sMm r) H := by
  have hc := schk_ok hr
  have hlt := frefs50 r hr
  rw [sG_at (Or.inl hlt)]
  obtain ⟨c, y, h⟩ := r
  unfold schk at hc
  split at hc
  · rename_i q hq
    simp only [Bool.and_eq_true, List.all_eq_true, List.mem_range] at hc
    obtain ⟨h1, h2, h3, h4⟩ := hc
    have h9 : c < 9 := Nat.le_of_ble_eq_true h1
    have e1 : q.1 = c := Nat.eq_of_beq_eq_true h2
    have e2 : q.2.length = fnf c := Nat.eq_of_beq_eq_true h3
    obtain ⟨q1, q2⟩ := q
    simp only at e1 e2 h4
    subst e1
    have e := bM_at hM hq
    rw [fcell_o h9]
    have hfs : ffs (sGm z b ad D aC) sMm q1 y h = q2.map (bval (sGm z b ad D aC) z) := by
      apply List.ext_getElem?
      intro k
      by_cases hk : k < fnf q1
      · rw [ffs_at hk, sfk_ok hq (h4 k hk), List.getElem?_map, List.getD_eq_getElem?_getD]
        have hl : k < q2.length := by omega
        rw [List.getElem?_eq_getElem hl]
        rfl
      · rw [List.getElem?_eq_none (by rw [ffs_len]; omega), List.getElem?_eq_none (by rw [List.length_map]; omega)]
    rw [hfs]
    exact e
  · rename_i q hq
    simp only [Bool.and_eq_true] at hc
    obtain ⟨h1, h2, h3, h4⟩ := hc
    have h9 : ¬ c < 9 := fun q9 => by
      have : Nat.blt c 9 = true := Nat.ble_eq.mpr q9
      rw [this] at h1
      cases h1
    have e1 : (fal c).1 = q.1 := Nat.eq_of_beq_eq_true h2
    have e2 : (fal c).2 = q.2.1 := Nat.eq_of_beq_eq_true h3
    have e : H[z + spos (c, y, h)]? = some (vp_cell (aC q.1) (q.2.1, bcon z q.1 q.2.2)) := bM_at hM hq
    rw [fcell_a h9]
    show H[z + spos (c, y, h)]? = some (vp_cell (aC (fal c).1) ((fal c).2, facon (sGm z b ad D aC) sMm c y h))
    obtain ⟨t, n, l⟩ := q
    simp only at e1 e2 h4 e
    rw [e, e1, e2]
    have hn : ∀ j, sMm.1 c y h j = bnum l j := fun j => by
      show sval (wL[spos (c, y, h)]?) j = _
      rw [hq]
      rfl
    have key : ∀ t0, (fal c).1 = t0 → vp_cell (aC t0) (n, bcon z t0 l) = vp_cell (aC t0) (n, facon (sGm z b ad D aC) sMm c y h) := by
      intro t0 ht0
      have ht1 : t0 = t := ht0.symm.trans e1
      unfold facon
      rw [ht0]
      match t0, ht0, ht1 with
      | 0, _, _ => exact congrArg (fun f => vp_cell (aC 0) (n, Sum.inl f)) (funext fun j => (hn j).symm)
      | 1, _, _ => exact congrArg (fun f => vp_cell (aC 1) (n, Sum.inl f)) (funext fun j => (hn j).symm)
      | 2, _, _ => exact congrArg (fun f => vp_cell (aC 2) (n, Sum.inl f)) (funext fun j => (hn j).symm)
      | 3, _, _ => rfl
      | 4, _, _ => rfl
      | t0 + 5, ht0, ht1 =>
        subst ht1
        have hb : Nat.ble 5 (t0 + 5) = true := Nat.ble_eq.mpr (by omega)
        rw [hb] at h4
        simp only [cond_true, Bool.and_eq_true, List.all_eq_true, List.mem_range] at h4
        have h7 := Nat.le_of_ble_eq_true h4.1
        have hj : ∀ j, j < n → (bref l j).map (fun i => z + i) = some ((sGm z b ad D aC).1 (fel c y j)) := fun j hj => by
          have h8 := h4.2 j hj
          split at h8
          · rename_i i hi
            rw [Bool.and_eq_true] at h8
            rw [hi, sG_at (Or.inl (Nat.le_of_ble_eq_true h8.2)), ← Nat.eq_of_beq_eq_true h8.1]
            rfl
          · cases h8
        match t0, h7 with
        | 0, _ => exact arrV_ext fun j hj' => congrArg va_rf (hj j hj')
        | 1, _ => exact arrV_ext fun j hj' => congrArg va_rf (hj j hj')
        | 2, _ => exact arrV_ext fun j hj' => congrArg va_rf (hj j hj')
        | t0 + 3, h7 => exact absurd h7 (by omega)
    exact congrArg some (key t e1)
  · cases hc
theorem wL_381 : wL[381]? = some (.inl (9, [some (bR 382), some (vI 0), some (vI 0), some (vI 0)])) := bisE_ok (by decide +kernel)
theorem wL_382 : wL[382]? = some (.inr (8, 16, [])) := bisE_ok (by decide +kernel)
theorem sMem (hM : bM (sGm z b ad D aC) z wL H) : fMem (sGm z b ad D aC) sMm H := by
  refine ⟨fun k q hk => ?_, z + 382, 16, 0, fun j => bnum [] j, 0, ?_, fun r hr => ?_, Nat.le_add_right _ _, ?_, Nat.zero_le _, by decide, fun _ => rfl, ?_, fun j hj => absurd hj (Nat.not_lt_zero _)⟩
  · simp only [fws, List.getElem?_map, Option.map_eq_some_iff] at hk
    obtain ⟨r, hr, rfl⟩ := hk
    exact sCell hM (List.mem_of_getElem? hr)
  · intro k q hk
    match k, hk with
    | 0, hk =>
      cases hk
      rw [sG_51]
      exact bM_at hM wL_381
    | 1, hk =>
      cases hk
      exact bM_at hM wL_382
  · rw [sG_at (Or.inl (frefs50 r hr))]
    have := (spos_ne r hr).2
    omega
  · rw [sG_51]
    omega
  · show sval (wL[381]?) 0 = nI 0
    rw [wL_381]
    rfl
end SSTART
def sAa (k : Nat) : Nat := (sMm.1 30 0 0 k).toNatClampNeg
def sS0 : St8 := mkS sAa [] none (fun _ => 0) 0 [] 0 (-1) (-1)
theorem sOK : OKA 0 sAa := by
  unfold OKA
  have h1 : ∀ h, h < 6 → ∀ k, k < 8 → ∀ s, s < 2 → hD sAa h k s ≤ 30 := by decide +kernel
  have h2 : ∀ h, h < 6 → ∀ k, k < 7 → hK sAa h k ≤ 9 := by decide +kernel
  refine ⟨?_, ?_, ?_, ?_, ?_, ?_, ?_, ?_, ?_, ?_, ?_, ?_, fun h k s a b c => h1 h a k b s c, fun h k a b => h2 h a k b, ?_, ?_, ?_, ?_⟩ <;> decide +kernel
theorem sYR : YR sMm 0 sAa := by
  unfold YR HV
  refine ⟨?_, ?_, ?_, ?_, ?_, ?_, ?_, ?_, ?_, ?_, ?_, ?_⟩ <;> decide +kernel
theorem sCI : CI sS0 sMm := by
  refine ⟨sYR, ⟨0, by decide, Nat.zero_le _, by decide +kernel, by decide +kernel, ?_⟩, by decide +kernel, ?_, by decide +kernel, by decide +kernel, by decide +kernel, ⟨Nat.zero_le _, by decide +kernel, ?_⟩, ⟨by decide +kernel, ?_⟩, ⟨by decide +kernel, by decide +kernel⟩⟩
  · intro i b h
    cases h
  · intro b h
    cases h
  · intro i h
    exact absurd h (Nat.not_lt_zero _)
  · intro k h
    exact absurd h (Nat.not_lt_zero _)
theorem sMI : MI sS0 sMm := by
  refine ⟨?_, by decide +kernel, ?_, by decide +kernel, ?_, by decide +kernel, by decide +kernel, by decide +kernel, by decide +kernel, ?_, by decide +kernel, ?_, ⟨by decide +kernel, by decide +kernel⟩⟩
  · show ∀ k, k < 213 → sMm.1 30 0 0 k = nI (sAa k)
    decide +kernel
  · intro j b h
    cases h
  · intro b h
    cases h
  · intro i h
    exact absurd h (Nat.not_lt_zero _)
  · intro k h
    exact absurd h (Nat.not_lt_zero _)
theorem sSIM : SIM 0 sS0 sMm := by
  refine ⟨sCI, sMI, sOK, ?_, ?_, Nat.zero_le _, by decide +kernel, by decide +kernel, Nat.zero_le _, ?_⟩
  · intro b h
    cases h
  · intro b h
    cases h
  · intro k h
    exact absurd h (Nat.not_lt_zero _)
