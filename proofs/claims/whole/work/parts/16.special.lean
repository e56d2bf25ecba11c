/-! MEANINGS OF JDK MEMBERS that are no flat code: arraycopy, String.length, charAt, the StringBuilder's members -/
def fCp (μ : fM) (c0 y0 h0 c1 y1 h1 sp dp n : Nat) : fM := (fun c y h k => if c = c1 ∧ y = y1 ∧ h = h1 ∧ dp ≤ k ∧ k < dp + n then μ.1 c0 y0 h0 (sp + (k - dp)) else μ.1 c y h k, μ.2)
def sCopy : fS := fun a μ => match a with
  | [.inl (c0, y0, h0), .inr (.inl sp), .inl (c1, y1, h1), .inr (.inl dp), .inr (.inl n)] => bif Nat.beq (fal c0).1 0 && Nat.beq (fal c1).1 0 then
      (if ¬ sp < 0 ∧ ¬ dp < 0 ∧ ¬ n < 0 ∧ sp.toNatClampNeg + n.toNatClampNeg ≤ (fal c0).2 ∧ dp.toNatClampNeg + n.toNatClampNeg ≤ (fal c1).2 then some (.inl none, fCp μ c0 y0 h0 c1 y1 h1 sp.toNatClampNeg dp.toNatClampNeg n.toNatClampNeg) else none) else none
  | _ => none
def sStrLen : fS := fun a μ => match a with
  | [.inl (c, i, _)] => bif Nat.beq c 52 && Nat.blt i 11 then some (.inl (some (vI (nI (fLen.getD i 0)))), μ) else none
  | _ => none
def sStrAt : fS := fun a μ => match a with
  | [.inl (c, i, _), .inr (.inl k)] => bif Nat.beq c 52 && Nat.blt i 11 then (if fin k (fLen.getD i 0) then some (.inl (some (vI ((fByt.getD i []).getD k.toNatClampNeg 0))), μ) else none) else none
  | _ => none
def sSbLen : fS := fun a μ => match a with
  | [.inl (c, _, _)] => bif Nat.beq c 51 then some (.inl (some (vI (μ.1 51 1 0 0))), μ) else none
  | _ => none
def sSbAt : fS := fun a μ => match a with
  | [.inl (c, _, _), .inr (.inl k)] => bif Nat.beq c 51 then (if fin k (μ.1 51 1 0 0).toNatClampNeg then some (.inl (some (vI (μ.1 51 0 0 k.toNatClampNeg))), μ) else none) else none
  | _ => none
def sSbSet : fS := fun a μ => match a with
  | [.inl (c, _, _), .inr (.inl k)] => bif Nat.beq c 51 then (if k = 0 then some (.inl none, fI μ 51 1 0 0 0) else none) else none
  | _ => none
/-- the letter x behind the text -/
def fPush (μ : fM) (x : Int32) : fM := fI (fI μ 51 0 0 (μ.1 51 1 0 0).toNatClampNeg x) 51 1 0 0 (μ.1 51 1 0 0 + 1)
def sSbC : fS := fun a μ => match a with
  | [.inl (c, _, _), .inr (.inl x)] => bif Nat.beq c 51 then (if 0 ≤ x ∧ x < 128 ∧ 0 ≤ μ.1 51 1 0 0 ∧ μ.1 51 1 0 0 < 90 then some (.inl (some (vR 51 0 0)), fPush μ x) else none) else none
  | _ => none
def sSbI : fS := fun a μ => match a with
  | [.inl (c, _, _), .inr (.inl x)] => bif Nat.beq c 51 then (if 0 ≤ x ∧ x < 100 ∧ 0 ≤ μ.1 51 1 0 0 ∧ μ.1 51 1 0 0 < 90 then some (.inl (some (vR 51 0 0)), if x < 10 then fPush μ (48 + x) else fPush (fPush μ (48 + x / 10)) (48 + (x - x / 10 * 10))) else none) else none
  | _ => none
theorem fcell_fCp_ne {G : fG} {μ : fM} {c0 y0 h0 c1 y1 h1 sp dp n : Nat} {r : Nat × Nat × Nat} (hne : r ≠ (c1, y1, h1)) : fcell G (fCp μ c0 y0 h0 c1 y1 h1 sp dp n) r = fcell G μ r := by
  obtain ⟨c', y', h'⟩ := r
  have hn : ∀ j, ¬ (c' = c1 ∧ y' = y1 ∧ h' = h1 ∧ dp ≤ j ∧ j < dp + n) := fun j q => hne (by rw [q.1, q.2.1, q.2.2.1])
  have e : ∀ j, (fCp μ c0 y0 h0 c1 y1 h1 sp dp n).1 c' y' h' j = μ.1 c' y' h' j := fun j => if_neg (hn j)
  have e2 : ∀ j, ffv (fCp μ c0 y0 h0 c1 y1 h1 sp dp n) c' y' h' j = ffv μ c' y' h' j := fun j => by
    unfold ffv
    rw [e j]
    rfl
  unfold fcell
  simp only [ffs, e2, facon, e]
  rfl
theorem fcell_fCp_arr {G : fG} {μ : fM} {c0 y0 h0 c1 y1 h1 sp dp n : Nat} (hc : (fal c1).1 = 0) : fcell G (fCp μ c0 y0 h0 c1 y1 h1 sp dp n) (c1, y1, h1) = .inl (G.2.2.1 0, (fal c1).2, .inl (va_cpy (fun j => μ.1 c0 y0 h0 j) (fun j => μ.1 c1 y1 h1 j) sp dp n)) := by
  have h9 : ¬ c1 < 9 := fal_ge (by omega)
  have e : (fun j => (fCp μ c0 y0 h0 c1 y1 h1 sp dp n).1 c1 y1 h1 j) = va_cpy (fun j => μ.1 c0 y0 h0 j) (fun j => μ.1 c1 y1 h1 j) sp dp n := by
    funext j
    simp [fCp, va_cpy]
  rw [fcell_a h9, hc]
  simp only [facon, hc, e]
theorem cs_copy {G : fG} {l : Launch} {own : String} {cc : ByteArray} {nL idx : Nat} {R : Room} (hl : Jvm.Cond.methodLink own idx arraycopyName ∈ fT) (hnat : Jvm.Cond.native arraycopyName ∈ fT) (hstat : Jvm.Cond.static arraycopyName ∈ fT) (hini : Jvm.Cond.initialized "java/lang/System" ∈ fT) (hR : 1 ≤ R.frames ∧ 100 ≤ R.locals) : fCS G l own cc nL R (.invokestatic idx) 5 sCopy 0 0 := by
  intro p e s m args below meth c H locs cells slots Q pc ls C hdg hls as rest μ res hlen hS hok hcat hM hSS hcl hsl kk kx
  obtain ⟨hx, hb, hml, hown, hts, hlocks, hst, hG, hP⟩ := C
  unfold sCopy at hS
  split at hS
  · rename_i c0 y0 h0 sp c1 y1 h1 dp n
    cases hb0 : (Nat.beq (fal c0).1 0 && Nat.beq (fal c1).1 0) <;> rw [hb0] at hS
    · cases hS
    rw [Bool.and_eq_true] at hb0
    have e0 := Nat.eq_of_beq_eq_true hb0.1
    have e1 := Nat.eq_of_beq_eq_true hb0.2
    simp only [cond_true] at hS
    split at hS
    · rename_i hc
      cases hS
      obtain ⟨g1, g2, g3, g4, g5⟩ := hc
      have r0 : (c0, y0, h0) ∈ frefs := fin_frefs (hok _ (by simp)) (by omega)
      have r1 : (c1, y1, h1) ∈ frefs := fin_frefs (hok _ (by simp)) (by omega)
      obtain ⟨j0, hj0⟩ := fidx r0
      obtain ⟨j1, hj1⟩ := fidx r1
      obtain ⟨sw, hPP, hDD, hback⟩ := fMem_open hG hM
      have hnf : nativeFrameWords "java/lang/System" "arraycopy" 5 ≤ 60 := by decide +kernel
      refine va_copyi (a0 := G.1 (c0, y0, h0)) (a := G.1 (c1, y1, h1)) (n0 := (fal c0).2) (n1 := (fal c1).2) (rest := rest.map (ftv G)) hx hb (hml.trans hls.symm) hown (hts _ hl) (hts _ hnat) (hts _ hstat) (hts _ hini) hP.1 hPP hDD hSS j0 j1 0 0 (c0 := G.2.2.1 0) (c1 := G.2.2.1 0) (f := fun j => μ.1 c0 y0 h0 j) (g := fun j => μ.1 c1 y1 h1 j) (ty := .int) (by rw [fopen_at hj0, fcell_a (fal_ge (by omega)), e0]; simp only [facon, e0]) (by rw [fopen_at hj1, fcell_a (fal_ge (by omega)), e1]; simp only [facon, e1]) (ftys_at G 0 (by omega)) (ftys_at G 0 (by omega)) rfl g1 g2 g3 g4 g5 (fun _ _ => rfl) hR.1 (by rw [fcats_sum]; omega) hdg (fun H1 locs1 hP1 hD1 hS1 => ?_)
      rw [fopen_set (μ' := fCp μ c0 y0 h0 c1 y1 h1 sp.toNatClampNeg dp.toNatClampNeg n.toNatClampNeg) hj1 (fcell_fCp_arr e1) (fun r' _ hne => fcell_fCp_ne hne)] at hP1
      exact kk none rfl (fun _ h => by cases h) H1 locs1 (hback _ H1 (fun y j => if_neg (fun q => by
        have := q.1
        subst this
        exact absurd e1 (by decide +kernel))) hP1) hS1
    · cases hS
  · cases hS
theorem f51 {y h : Nat} (hv : fVok (.inl (51, y, h))) : y = 0 ∧ h = 0 := by
  rcases hv with hv | ⟨-, h1 | h1, h2⟩
  · exact absurd hv (by
      have h0 : ∀ r ∈ frefs, r.1 ≠ 51 := by decide +kernel
      exact fun q => h0 _ q rfl)
  · exact absurd h1 (show ¬ (51 : Nat) = 52 by decide)
  · exact ⟨h1, h2⟩
theorem f52 {i h : Nat} (hv : fVok (.inl (52, i, h))) : h = 0 := by
  rcases hv with hv | ⟨-, -, h2⟩
  · exact absurd hv (by
      have h0 : ∀ r ∈ frefs, r.1 ≠ 52 := by decide +kernel
      exact fun q => h0 _ q rfl)
  · exact h2
theorem frefs51 : ∀ r ∈ frefs, r.1 ≠ 51 := by decide +kernel
/-- the memory opened at the builder -/
theorem fMem_j {G : fG} {μ : fM} {H : Heap} (hG : fWf G) (hM : fMem G μ H) : ∃ (q mm n : Nat) (a : Nat → Int32) (ml : Int32), va_P G.2.1 fcl (jSb (G.1 (51, 0, 0)) q ml (nI n) :: jAr G q mm a :: fws G μ) H ∧ va_D (fA G) (jSb (G.1 (51, 0, 0)) q ml (nI n) :: jAr G q mm a :: fws G μ) ∧ n ≤ mm ∧ mm ≤ 200 ∧ sb_Fit a ∧ μ.1 51 1 0 0 = nI n ∧ ∀ j, j < n → 0 ≤ a j ∧ μ.1 51 0 0 j = a j := by
  obtain ⟨hP, q, m, n, a, ml, hQ, h1, h2, h3, h4, h5, h6, h7, h8⟩ := hM
  refine ⟨q, m, n, a, ml, j_Pm.mpr fun z hz => ?_, j_Dm.mpr ⟨?_, fun z hz => ?_⟩, h4, h5, h6, h7, h8⟩
  · rcases List.mem_cons.mp hz with rfl | hz
    · exact hQ 0 _ rfl
    · rcases List.mem_cons.mp hz with rfl | hz
      · exact hQ 1 _ rfl
      · exact j_Pm.mp hP z hz
  · simp only [List.map_cons, List.nodup_cons, List.mem_cons, not_or]
    have hn : ∀ x : Nat, (∀ r ∈ frefs, G.1 r ≠ x) → x ∉ (fws G μ).map Prod.fst := fun x hx hm => by
      obtain ⟨z, hz, e⟩ := List.mem_map.mp hm
      obtain ⟨r, hr, rfl⟩ := List.mem_map.mp hz
      exact hx r hr e
    exact ⟨⟨fun e => h3 e.symm, hn _ hG.2.2.1⟩, hn _ h1, (j_Dm.mp (fD_ws hG)).1⟩
  · rcases List.mem_cons.mp hz with rfl | hz
    · exact hG.2.2.2
    · rcases List.mem_cons.mp hz with rfl | hz
      · exact h2
      · exact (j_Dm.mp (fD_ws hG)).2 z hz
theorem j_fMem {G : fG} {μ μ' : fM} {H : Heap} {q mm n : Nat} {a : Nat → Int32} {ml : Int32} (hP : va_P G.2.1 fcl (jSb (G.1 (51, 0, 0)) q ml (nI n) :: jAr G q mm a :: fws G μ) H) (hD : va_D (fA G) (jSb (G.1 (51, 0, 0)) q ml (nI n) :: jAr G q mm a :: fws G μ)) (hs : ∀ r ∈ frefs, fcell G μ' r = fcell G μ r) (h4 : n ≤ mm) (h5 : mm ≤ 200) (h6 : sb_Fit a) (h7 : μ'.1 51 1 0 0 = nI n) (h8 : ∀ j, j < n → 0 ≤ a j ∧ μ'.1 51 0 0 j = a j) : fMem G μ' H := by
  have hw : fws G μ' = fws G μ := List.map_congr_left fun r hr => by rw [hs r hr]
  have hD2 := j_Dm.mp hD
  simp only [List.map_cons, List.nodup_cons, List.mem_cons, not_or] at hD2
  obtain ⟨⟨⟨d1, d2⟩, d3, d4⟩, d5⟩ := hD2
  refine ⟨by rw [hw]; exact fun k z hz => hP (k + 2) z hz, q, mm, n, a, ml, fun k z hz => ?_, fun r hr e => d3 (List.mem_map.mpr ⟨_, List.mem_map.mpr ⟨r, hr, rfl⟩, e⟩), d5 (jAr G q mm a) (Or.inr (Or.inl rfl)), fun e => d1 e.symm, h4, h5, h6, h7, h8⟩
  match k, hz with
  | 0, hz => cases hz; exact hP 0 _ rfl
  | 1, hz => cases hz; exact hP 1 _ rfl
theorem j_chr {x : Int32} (h0 : 0 ≤ x) {N : Nat} (hN : N < 2 ^ 31) (h : x < nI N) : ∃ k, k < N ∧ x = nI k := by
  obtain ⟨k, hk, rfl⟩ := nI_of (show ¬ x < 0 from fun q => absurd (Int32.lt_iff_toInt_lt.mp q) (Int.not_lt.mpr (Int32.le_iff_toInt_le.mp h0)))
  refine ⟨k, ?_, rfl⟩
  exact Nat.not_le.mp fun q => nI_nlt q hk h
theorem j_d1 : ∀ k, k < 10 → 48 + nI k = nI (48 + k % 10) := by decide +kernel
theorem j_d2 : ∀ k, k < 100 → 48 + nI k / 10 = nI (48 + k / 10) ∧ 48 + (nI k - nI k / 10 * 10) = nI (48 + k % 10) := by decide +kernel
theorem f_byt : ∀ i, i < 11 → ∀ j, j < fLen.getD i 0 → fLen.getD i 0 < 1000 ∧ 0 ≤ (fByt.getD i []).getD j 0 ∧ (fByt.getD i []).getD j 0 < nI 128 := by decide +kernel
theorem j_ltN {n N : Nat} (hn : n < 2 ^ 31) (h : nI n < nI N) : n < N := Nat.not_le.mp fun q => nI_nlt q hn h
theorem fI51_cell {G : fG} {μ : fM} {y k : Nat} {x : Int32} : ∀ r ∈ frefs, fcell G (fI μ 51 y 0 k x) r = fcell G μ r := fun r hr => fcell_fI_ne (fun e => frefs51 r hr (by rw [e]))
theorem fPush_cell {G : fG} {μ : fM} {x : Int32} : ∀ r ∈ frefs, fcell G (fPush μ x) r = fcell G μ r := fun r hr => (fI51_cell r hr).trans (fI51_cell r hr)
theorem fI_at {μ : fM} {c y h k : Nat} {x : Int32} : (fI μ c y h k x).1 c y h k = x := by simp [fI]
theorem fPush_len {μ : fM} {x : Int32} {n : Nat} (h : μ.1 51 1 0 0 = nI n) : (fPush μ x).1 51 1 0 0 = nI (n + 1) := by
  have e : (fPush μ x).1 51 1 0 0 = μ.1 51 1 0 0 + 1 := fI_at
  rw [e, h]
  exact nI_1 n
theorem fPush_new {μ : fM} {x : Int32} {n : Nat} (h : μ.1 51 1 0 0 = nI n) (hn : n < 2 ^ 31) : (fPush μ x).1 51 0 0 n = x := by
  unfold fPush
  rw [h, nI_clamp hn]
  have e1 : (fI (fI μ 51 0 0 n x) 51 1 0 0 (nI n + 1)).1 51 0 0 n = (fI μ 51 0 0 n x).1 51 0 0 n := if_neg (fun q => absurd q.2.2.1 (by decide))
  rw [e1]
  exact fI_at
theorem fPush_old {μ : fM} {x : Int32} {n j : Nat} (h : μ.1 51 1 0 0 = nI n) (hn : n < 2 ^ 31) (hj : j < n) : (fPush μ x).1 51 0 0 j = μ.1 51 0 0 j := by
  unfold fPush
  rw [h, nI_clamp hn]
  have e1 : (fI (fI μ 51 0 0 n x) 51 1 0 0 (nI n + 1)).1 51 0 0 j = (fI μ 51 0 0 n x).1 51 0 0 j := if_neg (fun q => absurd q.2.2.1 (by decide))
  rw [e1]
  exact if_neg (fun q => absurd q.2.1 (by omega))
theorem cs_sbLen {G : fG} {l : Launch} {own : String} {cc : ByteArray} {nL idx : Nat} {R : Room} (hl : Jvm.Cond.methodLink own idx ⟨"java/lang/StringBuilder", "length", "()I"⟩ ∈ fT) (hf : l.stackTraces = false) (hGf : fWf G) (hR : 16 ≤ R.frames ∧ 1200 ≤ R.locals) : fCS G l own cc nL R (.invokevirtual idx) 1 sSbLen 0 0 := by
  intro p e s m args below meth c H locs cells slots Q pc ls C hdg hls as rest μ res hlen hS hok hcat hM hSS hcl hsl kk kx
  have C' := C
  obtain ⟨hx, hb, hml, hown, hts, hlocks, hst, hG, hP⟩ := C'
  unfold sSbLen at hS
  split at hS
  · rename_i c0 y0 h0
    cases hb0 : Nat.beq c0 51 <;> rw [hb0] at hS
    · cases hS
    have e0 := Nat.eq_of_beq_eq_true hb0
    subst e0
    obtain ⟨rfl, rfl⟩ := f51 (hok _ List.mem_cons_self)
    simp only [cond_true] at hS
    obtain ⟨q, mm, n, a, ml, hPP, hDD, a1, a2, a3, a4, a5⟩ := fMem_j hG hM
    cases hS
    refine j_callT (C0 := "java/lang/StringBuilder") (As := []) (n := 0) C (jc_sbLen hf hGf) (jw_sbLen hl) ⟨by decide, by decide, by decide +kernel⟩ ⟨Nat.le_trans (Nat.le_of_ble_eq_true rfl : _ ≤ 16) hR.1, Nat.le_trans (Nat.le_of_ble_eq_true rfl : _ ≤ 1200) hR.2⟩ hls hPP hDD hSS (va_recv (q := (RJ4, TJ4, 4)) (q0 := 0) (ci := 9) hP.1 hPP rfl rfl) rfl (by rw [fcats_sum]; exact hcat) hdg ⟨hcl, hsl⟩ (fun v ws' H1 locs1 hv hP1 hD1 hS1 => ?_)
    obtain ⟨rfl, rfl⟩ := hv
    have z := kk _ rfl (fun x hx => by cases hx; trivial) H1 locs1 (j_fMem hP1 hD1 (fun _ _ => rfl) a1 a2 a3 a4 a5) hS1
    rw [a4] at z
    exact z
  · cases hS
theorem cs_sbAt {G : fG} {l : Launch} {own : String} {cc : ByteArray} {nL idx : Nat} {R : Room} (hl : Jvm.Cond.methodLink own idx ⟨"java/lang/StringBuilder", "charAt", "(I)C"⟩ ∈ fT) (hf : l.stackTraces = false) (hGf : fWf G) (hR : 16 ≤ R.frames ∧ 1200 ≤ R.locals) : fCS G l own cc nL R (.invokevirtual idx) 2 sSbAt 0 0 := by
  intro p e s m args below meth c H locs cells slots Q pc ls C hdg hls as rest μ res hlen hS hok hcat hM hSS hcl hsl kk kx
  have C' := C
  obtain ⟨hx, hb, hml, hown, hts, hlocks, hst, hG, hP⟩ := C'
  unfold sSbAt at hS
  split at hS
  · rename_i c0 y0 h0 x0
    cases hb0 : Nat.beq c0 51 <;> rw [hb0] at hS
    · cases hS
    have e0 := Nat.eq_of_beq_eq_true hb0
    subst e0
    obtain ⟨rfl, rfl⟩ := f51 (hok _ List.mem_cons_self)
    simp only [cond_true] at hS
    obtain ⟨q, mm, n, a, ml, hPP, hDD, a1, a2, a3, a4, a5⟩ := fMem_j hG hM
    split at hS
    · rename_i hc
      cases hS
      obtain ⟨i, hi0, rfl⟩ := nI_of (fun h => hc (Or.inl h))
      rw [a4] at hc
      have hi : i < n := Nat.not_le.mp fun h => hc (Or.inr (by rw [nI_clamp (by omega), nI_clamp hi0]; exact h))
      obtain ⟨k, hk, hk2⟩ := j_fit (a3 i) (a5 i hi).1
      refine j_callT (C0 := "java/lang/StringBuilder") (As := [.int (nI i)]) (n := 1) C (jc_sbAt a2 a1 hi hk hk2 hf hGf) (jw_sbAt hl) ⟨by decide, by decide, by decide +kernel⟩ ⟨Nat.le_trans (Nat.le_of_ble_eq_true rfl : _ ≤ 16) hR.1, Nat.le_trans (Nat.le_of_ble_eq_true rfl : _ ≤ 1200) hR.2⟩ hls hPP hDD hSS (va_recv (q := (RJ4, TJ4, 4)) (q0 := 0) (ci := 9) hP.1 hPP rfl rfl) rfl (by rw [fcats_sum]; exact hcat) hdg ⟨hcl, hsl⟩ (fun v ws' H1 locs1 hv hP1 hD1 hS1 => ?_)
      obtain ⟨rfl, rfl⟩ := hv
      have z := kk _ rfl (fun x hx => by cases hx; trivial) H1 locs1 (j_fMem hP1 hD1 (fun _ _ => rfl) a1 a2 a3 a4 a5) hS1
      rw [nI_clamp hi0, (a5 i hi).2, hk2] at z
      exact z
    · cases hS
  · cases hS
theorem cs_sbSet {G : fG} {l : Launch} {own : String} {cc : ByteArray} {nL idx : Nat} {R : Room} (hl : Jvm.Cond.methodLink own idx ⟨"java/lang/StringBuilder", "setLength", "(I)V"⟩ ∈ fT) (hf : l.stackTraces = false) (hGf : fWf G) (hR : 16 ≤ R.frames ∧ 1200 ≤ R.locals) : fCS G l own cc nL R (.invokevirtual idx) 2 sSbSet 0 0 := by
  intro p e s m args below meth c H locs cells slots Q pc ls C hdg hls as rest μ res hlen hS hok hcat hM hSS hcl hsl kk kx
  have C' := C
  obtain ⟨hx, hb, hml, hown, hts, hlocks, hst, hG, hP⟩ := C'
  unfold sSbSet at hS
  split at hS
  · rename_i c0 y0 h0 x0
    cases hb0 : Nat.beq c0 51 <;> rw [hb0] at hS
    · cases hS
    have e0 := Nat.eq_of_beq_eq_true hb0
    subst e0
    obtain ⟨rfl, rfl⟩ := f51 (hok _ List.mem_cons_self)
    simp only [cond_true] at hS
    obtain ⟨q, mm, n, a, ml, hPP, hDD, a1, a2, a3, a4, a5⟩ := fMem_j hG hM
    split at hS
    · rename_i hc
      cases hS
      subst hc
      refine j_callT (C0 := "java/lang/StringBuilder") (As := [.int 0]) (n := 1) C (jc_sbSet a2 (by omega) a3 hf hGf) (jw_sbSet hl) ⟨by decide, by decide, by decide +kernel⟩ ⟨Nat.le_trans (Nat.le_of_ble_eq_true rfl : _ ≤ 16) hR.1, Nat.le_trans (Nat.le_of_ble_eq_true rfl : _ ≤ 1200) hR.2⟩ hls hPP hDD hSS (va_recv (q := (RJ4, TJ4, 4)) (q0 := 0) (ci := 9) hP.1 hPP rfl rfl) rfl (by rw [fcats_sum]; exact hcat) hdg ⟨hcl, hsl⟩ (fun v ws' H1 locs1 hv hP1 hD1 hS1 => ?_)
      obtain ⟨rfl, q2, ml2, m2, a6, rfl, b1, b2⟩ := hv
      exact kk none rfl (fun _ h => by cases h) H1 locs1 (j_fMem (n := 0) hP1 hD1 fI51_cell (Nat.zero_le _) b1 b2 fI_at (fun _ h => absurd h (Nat.not_lt_zero _))) hS1
    · cases hS
  · cases hS
theorem cs_sbC {G : fG} {l : Launch} {own : String} {cc : ByteArray} {nL idx : Nat} {R : Room} (hl : Jvm.Cond.methodLink own idx ⟨"java/lang/StringBuilder", "append", "(C)Ljava/lang/StringBuilder;"⟩ ∈ fT) (hf : l.stackTraces = false) (hGf : fWf G) (hR : 16 ≤ R.frames ∧ 1200 ≤ R.locals) : fCS G l own cc nL R (.invokevirtual idx) 2 sSbC 1 200 := by
  intro p e s m args below meth c H locs cells slots Q pc ls C hdg hls as rest μ res hlen hS hok hcat hM hSS hcl hsl kk kx
  have C' := C
  obtain ⟨hx, hb, hml, hown, hts, hlocks, hst, hG, hP⟩ := C'
  unfold sSbC at hS
  split at hS
  · rename_i c0 y0 h0 x0
    cases hb0 : Nat.beq c0 51 <;> rw [hb0] at hS
    · cases hS
    have e0 := Nat.eq_of_beq_eq_true hb0
    subst e0
    obtain ⟨rfl, rfl⟩ := f51 (hok _ List.mem_cons_self)
    simp only [cond_true] at hS
    obtain ⟨q, mm, n, a, ml, hPP, hDD, a1, a2, a3, a4, a5⟩ := fMem_j hG hM
    split at hS
    · rename_i hc
      cases hS
      obtain ⟨g1, g2, g3, g4⟩ := hc
      obtain ⟨k, hk, rfl⟩ := j_chr g1 (N := 128) (by decide) g2
      rw [a4] at g4
      have hn90 : n < 90 := j_ltN (by omega) g4
      refine j_callT (C0 := "java/lang/StringBuilder") (As := [.int (nI k)]) (n := 1) C (jc_sbC a2 a1 (by omega) a3 hk hf hGf) (jw_sbC hl) ⟨by decide, by decide, by decide +kernel⟩ ⟨Nat.le_trans (Nat.le_of_ble_eq_true rfl : _ ≤ 16) hR.1, Nat.le_trans (Nat.le_of_ble_eq_true rfl : _ ≤ 1200) hR.2⟩ hls hPP hDD hSS (va_recv (q := (RJ4, TJ4, 4)) (q0 := 0) (ci := 9) hP.1 hPP rfl rfl) rfl (by rw [fcats_sum]; exact hcat) hdg ⟨hcl, hsl⟩ (fun v ws' H1 locs1 hv hP1 hD1 hS1 => ?_)
      obtain ⟨rfl, q2, m2, a6, rfl, b1, b2, b3, b4, b5⟩ := hv
      refine kk _ rfl (fun x hx => by cases hx; exact Or.inr ⟨by decide, Or.inr rfl, rfl⟩) H1 locs1 (j_fMem hP1 hD1 fPush_cell b1 b2 b3 (fPush_len a4) (fun j hj => ?_)) hS1
      rcases Nat.lt_or_eq_of_le (Nat.le_of_lt_succ hj) with h | rfl
      · rw [fPush_old a4 (by omega) h, b5 j h]
        exact a5 j h
      · rw [fPush_new a4 (by omega), b4]
        exact ⟨j_0le (by omega), rfl⟩
    · cases hS
  · cases hS
theorem cs_sbI {G : fG} {l : Launch} {own : String} {cc : ByteArray} {nL idx : Nat} {R : Room} (hl : Jvm.Cond.methodLink own idx ⟨"java/lang/StringBuilder", "append", "(I)Ljava/lang/StringBuilder;"⟩ ∈ fT) (hf : l.stackTraces = false) (hGf : fWf G) (hR : 16 ≤ R.frames ∧ 1200 ≤ R.locals) : fCS G l own cc nL R (.invokevirtual idx) 2 sSbI 1 200 := by
  intro p e s m args below meth c H locs cells slots Q pc ls C hdg hls as rest μ res hlen hS hok hcat hM hSS hcl hsl kk kx
  have C' := C
  obtain ⟨hx, hb, hml, hown, hts, hlocks, hst, hG, hP⟩ := C'
  unfold sSbI at hS
  split at hS
  · rename_i c0 y0 h0 x0
    cases hb0 : Nat.beq c0 51 <;> rw [hb0] at hS
    · cases hS
    have e0 := Nat.eq_of_beq_eq_true hb0
    subst e0
    obtain ⟨rfl, rfl⟩ := f51 (hok _ List.mem_cons_self)
    simp only [cond_true] at hS
    obtain ⟨q, mm, n, a, ml, hPP, hDD, a1, a2, a3, a4, a5⟩ := fMem_j hG hM
    split at hS
    · rename_i hc
      cases hS
      obtain ⟨g1, g2, g3, g4⟩ := hc
      obtain ⟨k, hk, rfl⟩ := j_chr g1 (N := 100) (by decide) g2
      rw [a4] at g4
      have hn90 : n < 90 := j_ltN (by omega) g4
      rcases Nat.lt_or_ge k 10 with h10 | h10
      · refine j_callT (C0 := "java/lang/StringBuilder") (As := [.int (nI k)]) (n := 1) C (jc_sbI1 a2 a1 (by omega) a3 h10 hf hGf) (jw_sbI hl) ⟨by decide, by decide, by decide +kernel⟩ ⟨Nat.le_trans (Nat.le_of_ble_eq_true rfl : _ ≤ 16) hR.1, Nat.le_trans (Nat.le_of_ble_eq_true rfl : _ ≤ 1200) hR.2⟩ hls hPP hDD hSS (va_recv (q := (RJ4, TJ4, 4)) (q0 := 0) (ci := 9) hP.1 hPP rfl rfl) rfl (by rw [fcats_sum]; exact hcat) hdg ⟨hcl, hsl⟩ (fun v ws' H1 locs1 hv hP1 hD1 hS1 => ?_)
        obtain ⟨rfl, q2, m2, a6, rfl, b1, b2, b3, b4, b5⟩ := hv
        refine kk _ rfl (fun x hx => by cases hx; exact Or.inr ⟨by decide, Or.inr rfl, rfl⟩) H1 locs1 ?_ hS1
        show fMem G (if nI k < 10 then _ else _) H1
        rw [if_pos (show nI k < 10 from (nI_lt h10 (by decide) : nI k < nI 10)), (j_d1 k h10)]
        refine j_fMem hP1 hD1 fPush_cell b1 b2 b3 (fPush_len a4) (fun j hj => ?_)
        rcases Nat.lt_or_eq_of_le (Nat.le_of_lt_succ hj) with h | rfl
        · rw [fPush_old a4 (by omega) h, b5 j h]
          exact a5 j h
        · rw [fPush_new a4 (by omega), b4]
          exact ⟨j_0le (by omega), rfl⟩
      · refine j_callT (C0 := "java/lang/StringBuilder") (As := [.int (nI k)]) (n := 1) C (jc_sbI2 a2 a1 (by omega) a3 h10 hk hf hGf) (jw_sbI hl) ⟨by decide, by decide, by decide +kernel⟩ ⟨Nat.le_trans (Nat.le_of_ble_eq_true rfl : _ ≤ 16) hR.1, Nat.le_trans (Nat.le_of_ble_eq_true rfl : _ ≤ 1200) hR.2⟩ hls hPP hDD hSS (va_recv (q := (RJ4, TJ4, 4)) (q0 := 0) (ci := 9) hP.1 hPP rfl rfl) rfl (by rw [fcats_sum]; exact hcat) hdg ⟨hcl, hsl⟩ (fun v ws' H1 locs1 hv hP1 hD1 hS1 => ?_)
        obtain ⟨rfl, q2, m2, a6, rfl, b1, b2, b3, b4, b6, b5⟩ := hv
        refine kk _ rfl (fun x hx => by cases hx; exact Or.inr ⟨by decide, Or.inr rfl, rfl⟩) H1 locs1 ?_ hS1
        show fMem G (if nI k < 10 then _ else _) H1
        rw [if_neg (show ¬ nI k < 10 from (nI_nlt h10 (by omega) : ¬ nI k < nI 10)), (j_d2 k hk).1, (j_d2 k hk).2]
        have e1 := fPush_len (x := nI (48 + k / 10)) a4
        refine j_fMem hP1 hD1 (fun r hr => (fPush_cell r hr).trans (fPush_cell r hr)) b1 b2 b3 (fPush_len e1) (fun j hj => ?_)
        rcases Nat.lt_or_eq_of_le (Nat.le_of_lt_succ hj) with h | rfl
        · rw [fPush_old e1 (by omega) h]
          rcases Nat.lt_or_eq_of_le (Nat.le_of_lt_succ h) with h | rfl
          · rw [fPush_old a4 (by omega) h, b5 j h]
            exact a5 j h
          · rw [fPush_new a4 (by omega), b4]
            exact ⟨j_0le (by omega), rfl⟩
        · rw [fPush_new e1 (by omega), b6]
          exact ⟨j_0le (by omega), rfl⟩
    · cases hS
  · cases hS
theorem cs_strLen {G : fG} {l : Launch} {own : String} {cc : ByteArray} {nL idx : Nat} {R : Room} (hl : Jvm.Cond.methodLink own idx ⟨"java/lang/String", "length", "()I"⟩ ∈ fT) (hf : l.stackTraces = false) (hGf : fWf G) (hR : 16 ≤ R.frames ∧ 1200 ≤ R.locals) : fCS G l own cc nL R (.invokevirtual idx) 1 sStrLen 0 0 := by
  intro p e s m args below meth c H locs cells slots Q pc ls C hdg hls as rest μ res hlen hS hok hcat hM hSS hcl hsl kk kx
  have C' := C
  obtain ⟨hx, hb, hml, hown, hts, hlocks, hst, hG, hP⟩ := C'
  unfold sStrLen at hS
  split at hS
  · rename_i c0 i h0
    cases hb0 : (Nat.beq c0 52 && Nat.blt i 11) <;> rw [hb0] at hS
    · cases hS
    rw [Bool.and_eq_true] at hb0
    have e0 := Nat.eq_of_beq_eq_true hb0.1
    have hi : i < 11 := Nat.le_of_ble_eq_true hb0.2
    subst e0
    obtain rfl := f52 (hok _ List.mem_cons_self)
    simp only [cond_true] at hS
    obtain ⟨q, mm, n, a, ml, hPP, hDD, a1, a2, a3, a4, a5⟩ := fMem_j hG hM
    obtain ⟨adV, hZS⟩ := hP.2.2.2.2.2.2.1
    cases hS
    refine j_callT (C0 := "java/lang/String") (As := []) (n := 0) C (jc_strLen hi hf hGf) (jw_strLen hl) ⟨by decide, by decide, by decide +kernel⟩ ⟨Nat.le_trans (Nat.le_of_ble_eq_true rfl : _ ≤ 16) hR.1, Nat.le_trans (Nat.le_of_ble_eq_true rfl : _ ≤ 1200) hR.2⟩ hls hPP hDD hSS (vk_recv hZS hi hSS) rfl (by rw [fcats_sum]; exact hcat) hdg ⟨hcl, hsl⟩ (fun v ws' H1 locs1 hv hP1 hD1 hS1 => ?_)
    obtain ⟨rfl, ew⟩ := hv
    rw [ew] at hP1 hD1
    exact kk _ rfl (fun x hx => by cases hx; trivial) H1 locs1 (j_fMem hP1 hD1 (fun _ _ => rfl) a1 a2 a3 a4 a5) hS1
  · cases hS
theorem cs_strAt {G : fG} {l : Launch} {own : String} {cc : ByteArray} {nL idx : Nat} {R : Room} (hl : Jvm.Cond.methodLink own idx ⟨"java/lang/String", "charAt", "(I)C"⟩ ∈ fT) (hf : l.stackTraces = false) (hGf : fWf G) (hR : 16 ≤ R.frames ∧ 1200 ≤ R.locals) : fCS G l own cc nL R (.invokevirtual idx) 2 sStrAt 0 0 := by
  intro p e s m args below meth c H locs cells slots Q pc ls C hdg hls as rest μ res hlen hS hok hcat hM hSS hcl hsl kk kx
  have C' := C
  obtain ⟨hx, hb, hml, hown, hts, hlocks, hst, hG, hP⟩ := C'
  unfold sStrAt at hS
  split at hS
  · rename_i c0 i h0 x0
    cases hb0 : (Nat.beq c0 52 && Nat.blt i 11) <;> rw [hb0] at hS
    · cases hS
    rw [Bool.and_eq_true] at hb0
    have e0 := Nat.eq_of_beq_eq_true hb0.1
    have hi : i < 11 := Nat.le_of_ble_eq_true hb0.2
    subst e0
    obtain rfl := f52 (hok _ List.mem_cons_self)
    simp only [cond_true] at hS
    obtain ⟨q, mm, n, a, ml, hPP, hDD, a1, a2, a3, a4, a5⟩ := fMem_j hG hM
    obtain ⟨adV, hZS⟩ := hP.2.2.2.2.2.2.1
    split at hS
    · rename_i hc
      cases hS
      obtain ⟨j, hj0, rfl⟩ := nI_of (fun h => hc (Or.inl h))
      have hj : j < fLen.getD i 0 := Nat.not_le.mp fun h => hc (Or.inr (by rw [nI_clamp hj0]; exact h))
      obtain ⟨hN, hb1, hb2⟩ := f_byt i hi j hj
      obtain ⟨k, hk, hk2⟩ := j_chr hb1 (N := 128) (by decide) hb2
      refine j_callT (C0 := "java/lang/String") (As := [.int (nI j)]) (n := 1) C (jc_strAt hi (by omega) hj hk hk2 hf hGf) (jw_strAt hl) ⟨by decide, by decide, by decide +kernel⟩ ⟨Nat.le_trans (Nat.le_of_ble_eq_true rfl : _ ≤ 16) hR.1, Nat.le_trans (Nat.le_of_ble_eq_true rfl : _ ≤ 1200) hR.2⟩ hls hPP hDD hSS (vk_recv hZS hi hSS) rfl (by rw [fcats_sum]; exact hcat) hdg ⟨hcl, hsl⟩ (fun v ws' H1 locs1 hv hP1 hD1 hS1 => ?_)
      obtain ⟨rfl, ew⟩ := hv
      rw [ew] at hP1 hD1
      have z := kk _ rfl (fun x hx => by cases hx; trivial) H1 locs1 (j_fMem hP1 hD1 (fun _ _ => rfl) a1 a2 a3 a4 a5) hS1
      rw [nI_clamp hj0, hk2] at z
      exact z
    · cases hS
  · cases hS
/-! lists of words by their places -/
def fTl (l : List (Jvm.Cond × Nat)) : Prop := ∀ q ∈ l, lw_tbl[q.2]? = some q.1 ∧ goodWord q.1 = true
theorem fTl_at {l : List (Jvm.Cond × Nat)} (h : fTl l) (k : Nat) {w : Jvm.Cond} {i : Nat} (hk : l[k]? = some (w, i)) : w ∈ fT := fT_mem i (h (w, i) (List.mem_of_getElem? hk)).1 (h (w, i) (List.mem_of_getElem? hk)).2
def fNl (l : List (Jvm.Cond × Nat)) : Prop := ∀ q ∈ l, lw_tbl[q.2]? = some q.1 ∧ fNwb q.1 = true
theorem fNl_at {l : List (Jvm.Cond × Nat)} (h : fNl l) (k : Nat) {w : Jvm.Cond} {i : Nat} (hk : l[k]? = some (w, i)) : w ∈ fNw := List.mem_filter.mpr ⟨List.mem_of_getElem? (h (w, i) (List.mem_of_getElem? hk)).1, (h (w, i) (List.mem_of_getElem? hk)).2⟩
theorem fcs_nil {G : fG} {l : Launch} {own : String} {cc : ByteArray} {nL : Nat} {R : Room} {E : fE} : ∀ x ∈ ([] : List (Instr × Nat × Nat)), ∃ f, E.1[x.2.1]? = some f ∧ fCS G l own cc nL R x.1 x.2.2 f.1 f.2.1 f.2.2 := fun _ h => (List.not_mem_nil h).elim
theorem fcs_cons {G : fG} {l : Launch} {own : String} {cc : ByteArray} {nL : Nat} {R : Room} {E : fE} {x : Instr × Nat × Nat} {t : List (Instr × Nat × Nat)} {f : fS × Nat × Nat} (h1 : E.1[x.2.1]? = some f) (h2 : fCS G l own cc nL R x.1 x.2.2 f.1 f.2.1 f.2.2) (h : ∀ z ∈ t, ∃ f, E.1[z.2.1]? = some f ∧ fCS G l own cc nL R z.1 z.2.2 f.1 f.2.1 f.2.2) : ∀ z ∈ x :: t, ∃ f, E.1[z.2.1]? = some f ∧ fCS G l own cc nL R z.1 z.2.2 f.1 f.2.1 f.2.2 := by
  intro z hz
  rcases List.mem_cons.mp hz with rfl | hz
  · exact ⟨f, h1, h2⟩
  · exact h z hz
theorem fth_nil {G : fG} {l : Launch} {own : String} {cc : ByteArray} {nL : Nat} {R : Room} : ∀ x ∈ ([] : List (Nat × Nat)), fTH G l own cc nL R x.1 x.2 := fun _ h => (List.not_mem_nil h).elim
theorem fth_cons {G : fG} {l : Launch} {own : String} {cc : ByteArray} {nL : Nat} {R : Room} {x : Nat × Nat} {t : List (Nat × Nat)} (h1 : fTH G l own cc nL R x.1 x.2) (h : ∀ z ∈ t, fTH G l own cc nL R z.1 z.2) : ∀ z ∈ x :: t, fTH G l own cc nL R z.1 z.2 := by
  intro z hz
  rcases List.mem_cons.mp hz with rfl | hz
  · exact h1
  · exact h z hz
theorem fsem_hS {E : fE} {t : fTb} {nL : Nat} : ∀ a μ res, fsem E t nL a μ = some res → (fargs a).length ≤ nL ∧ fEnds (fun n => frun E t n 0 (fentry a nL) [] μ 0 0) res := fun _ _ _ h => fsem_to h
theorem fsemV_hS {kd : Nat} {E : fE} {t : fTb} {nL : Nat} : ∀ a μ res, fsemV kd E t nL a μ = some res → (fargs a).length ≤ nL ∧ fEnds (fun n => frun E t n 0 (fentry a nL) [] μ 0 0) res := fun _ _ _ h => fsem_to (fsemV_to h).1
theorem fsemV_rc {kd : Nat} {E : fE} {t : fTb} {nL : Nat} : ∀ as μ res, fsemV kd E t nL as μ = some res → ∃ y' h r, as = .inl (kd, y', h) :: r := fun _ _ _ h => (fsemV_to h).2
