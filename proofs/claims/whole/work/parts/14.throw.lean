/-! THROWS: new E("text") -/
abbrev fnms : List String := ["java/lang/RuntimeException", "java/lang/Exception"]
def fxw (X : String) : List Jvm.Cond := Bundle.throwableAtoms ++ Bundle.throwableSAtoms ++ Bundle.chainSAtoms X fnms ++ (Bundle.ownAtoms "" 0 X fnms).drop (Bundle.throwableAtoms ++ Bundle.throwableSAtoms ++ Bundle.chainSAtoms X fnms ++ [Jvm.Cond.methodLink "" 0 (Bundle.initS X)]).length
def fxb (w : Jvm.Cond) : Bool := !vx_no w || (decide (w ∈ lw_tbl) && (goodWord w || fNwb w) && vx_ot w)
theorem fxw_own {own X : String} {ic : Nat} : Bundle.ownAtoms own ic X fnms = Bundle.throwableAtoms ++ Bundle.throwableSAtoms ++ Bundle.chainSAtoms X fnms ++ (Jvm.Cond.methodLink own ic (Bundle.initS X) :: (Bundle.ownAtoms own ic X fnms).drop (Bundle.throwableAtoms ++ Bundle.throwableSAtoms ++ Bundle.chainSAtoms X fnms ++ [Jvm.Cond.methodLink "" 0 (Bundle.initS X)]).length) := by
  unfold Bundle.ownAtoms
  simp
theorem fxw_at {own X : String} {ic : Nat} (h : (fxw X).all fxb = true) (hm : Jvm.Cond.methodLink own ic (Bundle.initS X) ∈ fT) : ∀ w ∈ vx_atS own ic X fnms, (w ∈ fT ∨ w ∈ fNw) ∧ vx_ot w = true := by
  intro w hw
  obtain ⟨h1, h2⟩ := List.mem_filter.mp hw
  have key : w ∈ fxw X → (w ∈ fT ∨ w ∈ fNw) ∧ vx_ot w = true := by
    intro h3
    have h4 := List.all_eq_true.mp h w h3
    unfold fxb at h4
    rw [h2] at h4
    simp only [Bool.not_true, Bool.false_or, Bool.and_eq_true, Bool.or_eq_true, decide_eq_true_eq] at h4
    obtain ⟨⟨h5, h6⟩, h7⟩ := h4
    refine ⟨?_, h7⟩
    rcases h6 with h6 | h6
    · exact Or.inl (List.mem_filter.mpr ⟨h5, h6⟩)
    · exact Or.inr (List.mem_filter.mpr ⟨h5, h6⟩)
  rw [fxw_own] at h1
  have e : (Bundle.ownAtoms own ic X fnms).drop (Bundle.throwableAtoms ++ Bundle.throwableSAtoms ++ Bundle.chainSAtoms X fnms ++ [Jvm.Cond.methodLink "" 0 (Bundle.initS X)]).length = (Bundle.ownAtoms "" 0 X fnms).drop (Bundle.throwableAtoms ++ Bundle.throwableSAtoms ++ Bundle.chainSAtoms X fnms ++ [Jvm.Cond.methodLink "" 0 (Bundle.initS X)]).length := by
    unfold Bundle.ownAtoms
    simp
  rw [e] at h1
  rcases List.mem_append.mp h1 with h3 | h3
  · exact key (List.mem_append_left _ h3)
  · rcases List.mem_cons.mp h3 with rfl | h3
    · exact ⟨Or.inl hm, by unfold vx_ot; rw [fT_good hm]; simp⟩
    · exact key (List.mem_append_right _ h3)
theorem fxw_0 : (fxw "java/lang/IndexOutOfBoundsException").all fxb = true := by decide +kernel
theorem fxw_1 : (fxw "java/lang/IllegalArgumentException").all fxb = true := by decide +kernel
theorem fxw_2 : (fxw "java/lang/IllegalStateException").all fxb = true := by decide +kernel
theorem fxw_3 : (fxw "java/lang/UnsupportedOperationException").all fxb = true := by decide +kernel
theorem fxw_5 : (fxw "java/lang/ArithmeticException").all fxb = true := by decide +kernel
theorem fxw_all : ∀ a, a < 6 → a ≠ 4 → (fxw (fExn a)).all fxb = true := fun a ha h4 => match a, ha, h4 with
  | 0, _, _ => fxw_0
  | 1, _, _ => fxw_1
  | 2, _, _ => fxw_2
  | 3, _, _ => fxw_3
  | 4, _, h => absurd rfl h
  | 5, _, _ => fxw_5
theorem fx_fit : ∀ a, a < 6 → Bundle.fit (fExn a) = true := by decide +kernel
theorem fx_at {G : fG} {own X : String} {ic : Nat} {args : Array Value} {s : State} (hts : ∀ w ∈ fT, w.before args s = true) (hP : fPre G s) (h : ∀ w ∈ vx_atS own ic X fnms, (w ∈ fT ∨ w ∈ fNw) ∧ vx_ot w = true) : ∀ w ∈ vx_atS own ic X fnms, w.before args s = true := by
  intro w hw
  rcases (h w hw).1 with h1 | h1
  · exact hts w h1
  · have h2 := hP.2.2.2.2.1 w h1
    have hb := (List.mem_filter.mp h1).2
    unfold fNwb at hb
    split at hb
    · exact va_Nw.use rfl h2
    · exact va_Nw.use rfl h2
    · exact va_Nw.use rfl h2
    · cases hb
theorem fTH_S {G : fG} {l : Launch} {own : String} {cc : ByteArray} {nL pc a ik is ic : Nat} {text : String} {R : Room} (ha : a < 6) (h4 : a ≠ 4) (hk : Jvm.Cond.classLink own ik (fExn a) ∈ fT) (hini : Jvm.Cond.initialized (fExn a) ∈ fT) (hstr : (own, is, text) ∈ fStr) (hm : Jvm.Cond.methodLink own ic (Bundle.initS (fExn a)) ∈ fT) (hR : 5 < R.frames ∧ 90 ≤ R.locals)
    (d0 : decode cc pc = .ok (.new ik, 3)) (d3 : decode cc (pc + 3) = .ok (.dup, 1)) (d4 : decode cc (pc + 4) = .ok (.ldc is, 2)) (d6 : decode cc (pc + 6) = .ok (.invokespecial ic, 3)) (d9 : decode cc (pc + 9) = .ok (.athrow, 1)) : fTH G l own cc nL R pc a := by
  intro p e s m args below meth c H locs k1 n1 MC MS ls rest Qc XC C hex hS hsz hcat hc1 hs1 hc2 hs2 hX
  obtain ⟨hx, hb, hml, hown, hts, hlocks, hst, hG, hP⟩ := C
  have hw := fxw_at (own := own) (ic := ic) (fxw_all a ha h4) hm
  obtain ⟨sa, hsa⟩ := hP.2.2.2.2.2.1 _ hstr
  exact vx_throwS (names := fnms) (sa := sa) hx hb hst hown (fx_fit a ha) (by decide +kernel) (hts _ hk) (hts _ hini) hsa (fx_at hts hP hw) (fun w hw' => (List.mem_cons.mp hw').elim (fun e => by rw [e]; rfl) (fun h => (List.mem_cons.mp h).elim (fun e => by rw [e]; rfl) (fun h => (hw w h).2))) hP.2.2.1 hP.2.2.2.1 hS (hsz.trans hml.symm) d0 d3 d4 d6 d9 (fun x hx => (hex x hx).elim) hR.1 (by rw [fcats_sum]; show _ + 82 ≤ _; omega) hc1 hs1 hlocks hX hS.2.2 hc2 hs2
theorem fTH_SW {G : fG} {l : Launch} {own : String} {cc : ByteArray} {nL pc a ik is ic : Nat} {text : String} {R : Room} (ha : a < 6) (h4 : a ≠ 4) (hk : Jvm.Cond.classLink own ik (fExn a) ∈ fT) (hini : Jvm.Cond.initialized (fExn a) ∈ fT) (hstr : (own, is, text) ∈ fStr) (hm : Jvm.Cond.methodLink own ic (Bundle.initS (fExn a)) ∈ fT) (hR : 5 < R.frames ∧ 90 ≤ R.locals)
    (d0 : decode cc pc = .ok (.new ik, 3)) (d3 : decode cc (pc + 3) = .ok (.dup, 1)) (d4 : decode cc (pc + 4) = .ok (.ldc_w is, 3)) (d7 : decode cc (pc + 7) = .ok (.invokespecial ic, 3)) (d10 : decode cc (pc + 10) = .ok (.athrow, 1)) : fTH G l own cc nL R pc a := by
  intro p e s m args below meth c H locs k1 n1 MC MS ls rest Qc XC C hex hS hsz hcat hc1 hs1 hc2 hs2 hX
  obtain ⟨hx, hb, hml, hown, hts, hlocks, hst, hG, hP⟩ := C
  have hw := fxw_at (own := own) (ic := ic) (fxw_all a ha h4) hm
  obtain ⟨sa, hsa⟩ := hP.2.2.2.2.2.1 _ hstr
  exact vx_throwSW (names := fnms) (sa := sa) hx hb hst hown (fx_fit a ha) (by decide +kernel) (hts _ hk) (hts _ hini) hsa (fx_at hts hP hw) (fun w hw' => (List.mem_cons.mp hw').elim (fun e => by rw [e]; rfl) (fun h => (List.mem_cons.mp h).elim (fun e => by rw [e]; rfl) (fun h => (hw w h).2))) hP.2.2.1 hP.2.2.2.1 hS (hsz.trans hml.symm) d0 d3 d4 d7 d10 (fun x hx => (hex x hx).elim) hR.1 (by rw [fcats_sum]; show _ + 82 ≤ _; omega) hc1 hs1 hlocks hX hS.2.2 hc2 hs2
