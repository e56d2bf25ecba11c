/-! WHAT HOLDS OF EVERY STATE, BEHIND EACH MODIFICATION -/
theorem sMir_ok {u h : Nat} (hh : h < 6) : ∀ {j k n : Nat} {a : Nat → Nat}, OKA u a → k + j ≤ 8 → OKA u (sMir h j k n a).2
  | 0, _, _, _, O, _ => O
  | j + 1, k, n, a, O, hk => sMir_ok hh (j := j) (k := k + 1) (aSw_ok O hh (by omega)) (by omega)
theorem rHr_ok {u : Nat} : ∀ {j n : Nat} {a : Nat → Nat}, OKA u a → a 1 + j ≤ 99 * u → OKA u (rHr j n a).2
  | 0, _, _, O, _ => O
  | j + 1, n, a, O, h => by
    have K := sHr_ok O (by omega)
    exact rHr_ok (j := j) (n := n + (sHr a).1) K.1 (by rw [K.2.1]; omega)
theorem aFrame_ok {u h L R : Nat} {a : Nat → Nat} (O : OKA u a) (hh : h < 6) (h8 : hF a h < 8) (hL : L ≤ 30) (hR : R ≤ 30) : OKA u (aFrame a h L R) := by
  have O1 : OKA u (up a (21 + 28 * h + 4 + 2 * hF a h) L) := OKA.up_wd (g := h) (i := hF a h) (r := 0) O hh h8 (by decide) hL
  have O2 : OKA u (up (up a (21 + 28 * h + 4 + 2 * hF a h) L) (21 + 28 * h + 4 + 2 * hF a h + 1) R) := OKA.up_wd (g := h) (i := hF a h) (r := 1) O1 hh h8 (by decide) hR
  have O3 := OKA.up_fr (g := h) (v := hF a h + 1) O2 hh (by omega)
  unfold aFrame
  split
  · exact O3
  · exact OKA.up_ck (g := h) (i := hF a h - 1) O3 hh (by omega) (by omega)
theorem aOrd_ok {u f h c : Nat} {a : Nat → Nat} (O : OKA u a) (hu : u + 1 ≤ 6200) (h6 : a 2 < 6) (hf : f ≤ 8) (hh : h ≤ 999) (hc : c ≤ 999) : OKA (u + 1) (aOrd a f h c) := by
  have O0 := O.mono (u2 := u + 1) (by omega) hu
  have h3 := O.next
  have O1 := O0.up_oi (i := a 2) (v := a 3) h6 (by omega)
  have O2 := O1.up_fo (i := a 2) (v := f) h6 hf
  have O3 := O2.up_oh (i := a 2) (v := h) h6 hh
  have O4 := O3.up_oc (i := a 2) (v := c) h6 hc
  have O5 := O4.up_ords (v := a 2 + 1) (by omega)
  exact O5.up_next (v := a 3 + 1) (by omega)
theorem aDel_ok {u p h : Nat} {a : Nat → Nat} (O : OKA u a) (hu : u + 1 ≤ 6200) (hp : p < a 2) (hh : h < 6) : OKA (u + 1) (aDel a p h) := by
  have o6 := O.ords
  have hpd := O.paid
  have hd := oD_le O (k := p) (by omega)
  have h1 := O.hour
  have out : ∀ k, ¬ (k = 2 ∨ k = 4 ∨ k = 21 + 28 * h ∨ 189 ≤ k) → aDel a p h k = a k := fun k q => by
    rw [aDel_at, if_neg (by omega), if_neg (by omega), if_neg (by omega), aPay_at (by omega) (by omega)]
  have ord : ∀ k i B, k < 6 → i < 4 → (∀ k, k < 6 → a (189 + 4 * k + i) ≤ B) → aDel a p h (189 + 4 * k + i) ≤ B := fun k i B hk hi H => by
    rw [aDel_at, if_neg (by omega)]
    split
    · exact Nat.zero_le _
    · split
      · rw [aPay_at (by omega) (by omega)]
        have := H (k + 1) (by omega)
        rwa [show 189 + 4 * (k + 1) + i = 189 + 4 * k + i + 4 from by omega] at this
      · rw [aPay_at (by omega) (by omega)]
        exact H k hk
  have hs : aDel a p h (21 + 28 * h) = 2 := by
    rw [aDel_at, if_neg (by omega), if_neg (by omega), if_neg (by omega)]
    exact up_at
  have n4 : aDel a p h 4 = a 4 + oD a p := by
    rw [aDel_at, if_neg (by omega), if_neg (by omega), if_neg (by omega)]
    exact (up_ne (by omega)).trans up_at
  have n1 : aDel a p h 1 = a 1 := out 1 (by omega)
  refine ⟨hu, ?_, ?_, ?_, ?_, ?_, fun k hk => ?_, fun k hk => ?_, fun g hg => ?_, fun g hg => ?_, fun g hg => ?_, fun g hg => ?_, fun g k s hg hk hs => ?_, fun g k hg hk => ?_, fun k hk => ?_, fun k hk => ?_, fun k hk => ?_, fun k hk => ?_⟩
  · rw [out 0 (by omega)]; exact O.hulls
  · rw [n1]; omega
  · rw [aDel_at, if_pos rfl]; omega
  · rw [out 3 (by omega)]; have := O.next; omega
  · rw [n4]; omega
  · rw [aT, out _ (by omega)]; exact O.tide k hk
  · rw [aS, out _ (by omega)]; exact O.slip k hk
  · by_cases e : g = h
    · subst e
      show aDel a p g (21 + 28 * g) ≤ 3
      rw [hs]
      omega
    · rw [hS, out _ (by omega)]; exact O.st g hg
  · rw [hF, out _ (by omega)]; exact O.fr g hg
  · rw [hC, out _ (by omega)]; exact O.cg g hg
  · rw [n1, hW, out _ (by omega)]; exact O.wt g hg
  · rw [hD, out _ (by omega)]; exact O.wd g k s hg hk hs
  · rw [hK, out _ (by omega)]; exact O.ck g k hg hk
  · exact ord k 0 (u + 1) hk (by omega) (fun k hk => by have : oI a k ≤ u := O.oi k hk; show oI a k ≤ u + 1; omega)
  · exact ord k 1 8 hk (by omega) (fun k hk => O.fo k hk)
  · exact ord k 2 999 hk (by omega) (fun k hk => O.oh k hk)
  · exact ord k 3 999 hk (by omega) (fun k hk => O.oc k hk)
theorem sp_ok {u k : Nat} {a : Nat → Nat} {x y z : Int32} (O : OKA u a) (hu : u + 1 ≤ 6200) (hk : k < 12) : OKA (u + 1) (sp k a x y z).2 := by
  have h6 := O.hulls
  have O1 := O.mono (u2 := u + 1) (by omega) hu
  cases hv : (sp k a x y z).1 with
  | inl t => rw [(sp_fc hk hv).2.2.2.2.1]; exact O1
  | inr v =>
    match k, hk with
    | 0, _ =>
      change (sHull a).1 = _ at hv
      show OKA (u + 1) (sHull a).2
      unfold sHull at hv ⊢
      split
      · exact O1
      · exact O1.up_hulls (by omega)
    | 1, _ =>
      show OKA (u + 1) (sFrame a x y z).2
      unfold sFrame
      split
      · rename_i q
        split
        · rename_i r
          split
          · rename_i s
            obtain ⟨h, hh, rfl⟩ := nI_ix (by omega) q.1 q.2
            obtain ⟨L, hL1, hL2, rfl⟩ := inR_of (lo := 1) (hi := 30) (by omega) (by omega) r.1
            obtain ⟨R, hR1, hR2, rfl⟩ := inR_of (lo := 1) (hi := 30) (by omega) (by omega) r.2
            have hx : xN (nI h) = h := nI_clamp (by omega)
            rw [hx] at s ⊢
            rw [show xN (nI L) = L from nI_clamp (by omega), show xN (nI R) = R from nI_clamp (by omega)]
            have := O.fr h (by omega)
            have := s.2
            exact aFrame_ok O1 (by omega) (by omega) hL2 hR2
          · exact O1
        · exact O1
      · exact O1
    | 2, _ =>
      show OKA (u + 1) (sMirror a x).2
      unfold sMirror
      split
      · rename_i q
        obtain ⟨h, hh, rfl⟩ := nI_ix (by omega) q.1 q.2
        rw [show xN (nI h) = h from nI_clamp (by omega)]
        have := O.fr h (by omega)
        split
        · exact sMir_ok (by omega) O1 (by omega)
        · exact O1
      · exact O1
    | 3, _ =>
      show OKA (u + 1) (sCargo a x y).2
      unfold sCargo
      split
      · rename_i q
        split
        · rename_i r
          obtain ⟨h, hh, rfl⟩ := nI_ix (by omega) q.1 q.2
          obtain ⟨n, hn1, hn2, rfl⟩ := inR_of (lo := 0) (hi := 999) (by omega) (by omega) r
          rw [show xN (nI h) = h from nI_clamp (by omega), show xN (nI n) = n from nI_clamp (by omega)]
          split
          · exact O1.up_cg (by omega) hn2
          · exact O1
        · exact O1
      · exact O1
    | 4, _ =>
      show OKA (u + 1) (sLaunch a x).2
      unfold sLaunch
      split
      · rename_i q
        obtain ⟨h, hh, rfl⟩ := nI_ix (by omega) q.1 q.2
        rw [show xN (nI h) = h from nI_clamp (by omega)]
        split
        · split
          · exact O1.up_st (by omega) (by omega)
          · exact O1
        · exact O1
      · exact O1
    | 5, _ =>
      show OKA (u + 1) (sCaulk a x y).2
      unfold sCaulk
      split
      · rename_i q
        obtain ⟨h, hh, rfl⟩ := nI_ix (by omega) q.1.1 q.1.2
        have hx : xN (nI h) = h := nI_clamp (by omega)
        rw [hx] at q ⊢
        have f8 := O.fr h (by omega)
        obtain ⟨i, hi, rfl⟩ := nI_ix (by omega) q.2.1 q.2.2
        rw [show xN (nI i) = i from nI_clamp (by omega)]
        split
        · exact O1.up_ck (by omega) (by omega) (by omega)
        · exact O1
      · exact O1
    | 6, _ =>
      show OKA (u + 1) (sPump a x y).2
      unfold sPump
      split
      · rename_i q
        split
        · obtain ⟨h, hh, rfl⟩ := nI_ix (by omega) q.1 q.2
          rw [show xN (nI h) = h from nI_clamp (by omega)]
          have := O.wt h (by omega)
          split
          · exact O1.up_wt (by omega) (by omega)
          · exact O1
        · exact O1
      · exact O1
    | 7, _ =>
      show OKA (u + 1) (sHours a x).2
      unfold sHours
      split
      · rename_i q
        obtain ⟨N, hN1, hN2, rfl⟩ := inR_of (lo := 1) (hi := 99) (by omega) (by omega) q
        rw [show xN (nI N) = N from nI_clamp (by omega)]
        have := O.hour
        exact rHr_ok O1 (by omega)
      · exact O1
    | 8, _ =>
      show OKA (u + 1) (sTide a x y).2
      unfold sTide
      split
      · rename_i q
        obtain ⟨i, hi1, hi2, rfl⟩ := inR_of (lo := 0) (hi := 11) (by omega) (by omega) q.1
        obtain ⟨n, hn1, hn2, rfl⟩ := inR_of (lo := 0) (hi := 50) (by omega) (by omega) q.2
        rw [show xN (nI i) = i from nI_clamp (by omega), show xN (nI n) = n from nI_clamp (by omega)]
        exact O1.up_tide (by omega) hn2
      · exact O1
    | 9, _ =>
      show OKA (u + 1) (sOrder a x y z).2
      unfold sOrder
      split
      · rename_i q
        split
        · exact O1
        · rename_i r
          obtain ⟨F, hF1, hF2, rfl⟩ := inR_of (lo := 2) (hi := 8) (by omega) (by omega) q.1
          obtain ⟨T, hT1, hT2, rfl⟩ := inR_of (lo := 0) (hi := 999) (by omega) (by omega) q.2.1
          obtain ⟨C, hC1, hC2, rfl⟩ := inR_of (lo := 1) (hi := 999) (by omega) (by omega) q.2.2
          rw [show xN (nI F) = F from nI_clamp (by omega), show xN (nI T) = T from nI_clamp (by omega), show xN (nI C) = C from nI_clamp (by omega)]
          exact aOrd_ok O hu (by have := O.ords; omega) hF2 hT2 hC2
      · exact O1
    | 10, _ =>
      show OKA (u + 1) (sDeliver a x y).2
      unfold sDeliver
      split
      · exact O1
      · rename_i q
        split
        · rename_i r
          split
          · obtain ⟨h, hh, rfl⟩ := nI_ix (by omega) r.1 r.2
            rw [show xN (nI h) = h from nI_clamp (by omega)]
            have : oP a x ≤ a 2 := oP_le
            exact aDel_ok O hu (by omega) (by omega)
          · exact O1
        · exact O1
    | 11, _ =>
      show OKA (u + 1) (sSlip a x y).2
      unfold sSlip
      split
      · rename_i q
        obtain ⟨i, hi1, hi2, rfl⟩ := inR_of (lo := 0) (hi := 3) (by omega) (by omega) q.1
        obtain ⟨n, hn1, hn2, rfl⟩ := inR_of (lo := 0) (hi := 8) (by omega) (by omega) q.2
        rw [show xN (nI i) = i from nI_clamp (by omega), show xN (nI n) = n from nI_clamp (by omega)]
        exact O1.up_slip (by omega) hn2
      · exact O1
