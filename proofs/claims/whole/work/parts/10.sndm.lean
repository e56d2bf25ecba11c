section FSND2
variable {p : Program} {l : Launch} {e : Env} {R : Room} {s : State} {m : MethodId} {args : Array Value} {below : List Frame} {meth : Method} {c : Code} {G : fG} {cc : ByteArray} {own : String} {nL MC MS : Nat} {res : fR}
variable {ret : Option FieldType} {Z : fT5} {E : fE} {k : fK} {ln nx a b : Nat} {v : Int32} {ts : List Nat} {pc : Nat} {L : List (Option fV)} {S : List fV} {μ : fM} {k1 n1 : Nat} {H : Heap} {locs : List Loc} {ls : Array Slot}
theorem fin_frefs {c y h : Nat} (hv : fVok (.inl (c, y, h))) (hc : (fal c).1 ≠ 9) : (c, y, h) ∈ frefs := by
  rcases hv with hv | hv
  · exact hv
  · exact absurd (fal_50 c hv.1) hc
theorem fhd1 {x : fV} {S : List fV} (h : ∀ v ∈ x :: S, fVok v) : fVok x := h _ List.mem_cons_self
theorem fhd2 {x y : fV} {S : List fV} (h : ∀ v ∈ x :: y :: S, fVok v) : fVok y := h _ (List.mem_cons_of_mem _ List.mem_cons_self)
theorem fhd3 {x y z : fV} {S : List fV} (h : ∀ v ∈ x :: y :: z :: S, fVok v) : fVok z := h _ (List.mem_cons_of_mem _ (List.mem_cons_of_mem _ List.mem_cons_self))
theorem f50 {y h : Nat} (hv : fVok (.inl (50, y, h))) : (50, y, h) = (50, 0, 0) := by
  rcases hv with hv | ⟨-, hv, hv2⟩
  · exact absurd hv (fun q => by
      have : ∀ r ∈ frefs, r.1 ≠ 50 := by decide +kernel
      exact this _ q rfl)
  · rcases hv with hv | hv
    · cases hv
    · simp only at hv hv2
      rw [hv, hv2]
theorem fs_baload  (C : fCx G p l s m args meth c cc own nL) (hd : decode cc pc = .ok (.baload, ln)) (hk : fok nL ret Z pc ln (.baload, nx, a, b, v, ts) = true) (K : fGo p l e R s m args below meth c G nL MC MS res k) (h : fstep E (.baload, nx, a, b, v, ts) pc L S μ k1 n1 k = some res) (hs : fSt G s nL MC MS L S μ k1 n1 H locs ls) :
    W p l e R s m args below meth c H locs k1 n1 (vx_MQ below (fQ G res) (fXC G res) args s MC MS (fA G)) (F0 m pc ls (S.map (ftv G))) := by
  obtain ⟨hx, hb, hml, hown, hts, hlocks, hst, hG, hP⟩ := C
  obtain ⟨hM, hS, hl, hL, hSk, hk1, hn1⟩ := hs
  simp only [fok, Bool.and_eq_true, Bool.or_eq_true, decide_eq_true_eq] at hk
  obtain ⟨rfl, rfl⟩ := hk
  simp only [fstep] at h
  split at h
  · rename_i i q y h' S'
    cases hb0 : Nat.beq (fal q).1 1 <;> rw [hb0] at h
    · cases h
    have hc := Nat.eq_of_beq_eq_true hb0
    simp only [cond_true] at h
    split at h
    · rename_i hin
      refine fr_zald hx hb hP.1 hM (fin_frefs (fhd2 hSk) (by omega)) hc hin hd ?_
      exact K _ L (vI (μ.1 q y h' i.toNatClampNeg) :: S') μ k1 n1 H locs ls h ⟨hM, hS, hl, hL, fok_cons trivial (fok_tail (fok_tail hSk)), hk1, hn1⟩
    · cases h
  · cases h
theorem fs_caload  (C : fCx G p l s m args meth c cc own nL) (hd : decode cc pc = .ok (.caload, ln)) (hk : fok nL ret Z pc ln (.caload, nx, a, b, v, ts) = true) (K : fGo p l e R s m args below meth c G nL MC MS res k) (h : fstep E (.caload, nx, a, b, v, ts) pc L S μ k1 n1 k = some res) (hs : fSt G s nL MC MS L S μ k1 n1 H locs ls) :
    W p l e R s m args below meth c H locs k1 n1 (vx_MQ below (fQ G res) (fXC G res) args s MC MS (fA G)) (F0 m pc ls (S.map (ftv G))) := by
  obtain ⟨hx, hb, hml, hown, hts, hlocks, hst, hG, hP⟩ := C
  obtain ⟨hM, hS, hl, hL, hSk, hk1, hn1⟩ := hs
  simp only [fok, Bool.and_eq_true, Bool.or_eq_true, decide_eq_true_eq] at hk
  obtain ⟨rfl, rfl⟩ := hk
  simp only [fstep] at h
  split at h
  · rename_i i q y h' S'
    cases hb0 : Nat.beq (fal q).1 2 <;> rw [hb0] at h
    · cases h
    have hc := Nat.eq_of_beq_eq_true hb0
    simp only [cond_true] at h
    split at h
    · rename_i hin
      refine fr_cald hx hb hP.1 hM (fin_frefs (fhd2 hSk) (by omega)) hc hin hd ?_
      exact K _ L (vI (μ.1 q y h' i.toNatClampNeg) :: S') μ k1 n1 H locs ls h ⟨hM, hS, hl, hL, fok_cons trivial (fok_tail (fok_tail hSk)), hk1, hn1⟩
    · cases h
  · cases h
theorem fs_laload  (C : fCx G p l s m args meth c cc own nL) (hd : decode cc pc = .ok (.laload, ln)) (hk : fok nL ret Z pc ln (.laload, nx, a, b, v, ts) = true) (K : fGo p l e R s m args below meth c G nL MC MS res k) (h : fstep E (.laload, nx, a, b, v, ts) pc L S μ k1 n1 k = some res) (hs : fSt G s nL MC MS L S μ k1 n1 H locs ls) :
    W p l e R s m args below meth c H locs k1 n1 (vx_MQ below (fQ G res) (fXC G res) args s MC MS (fA G)) (F0 m pc ls (S.map (ftv G))) := by
  obtain ⟨hx, hb, hml, hown, hts, hlocks, hst, hG, hP⟩ := C
  obtain ⟨hM, hS, hl, hL, hSk, hk1, hn1⟩ := hs
  simp only [fok, Bool.and_eq_true, Bool.or_eq_true, decide_eq_true_eq] at hk
  obtain ⟨rfl, rfl⟩ := hk
  simp only [fstep] at h
  split at h
  · rename_i i q y h' S'
    cases hb0 : Nat.beq (fal q).1 3 <;> rw [hb0] at h
    · cases h
    have hc := Nat.eq_of_beq_eq_true hb0
    simp only [cond_true] at h
    split at h
    · rename_i hin
      refine fr_lald hx hb hP.1 hM (fin_frefs (fhd2 hSk) (by omega)) hc hin hd ?_
      exact K _ L (vL (μ.2.1 q y h' i.toNatClampNeg) :: S') μ k1 n1 H locs ls h ⟨hM, hS, hl, hL, fok_cons trivial (fok_tail (fok_tail hSk)), hk1, hn1⟩
    · cases h
  · cases h
theorem fs_daload  (C : fCx G p l s m args meth c cc own nL) (hd : decode cc pc = .ok (.daload, ln)) (hk : fok nL ret Z pc ln (.daload, nx, a, b, v, ts) = true) (K : fGo p l e R s m args below meth c G nL MC MS res k) (h : fstep E (.daload, nx, a, b, v, ts) pc L S μ k1 n1 k = some res) (hs : fSt G s nL MC MS L S μ k1 n1 H locs ls) :
    W p l e R s m args below meth c H locs k1 n1 (vx_MQ below (fQ G res) (fXC G res) args s MC MS (fA G)) (F0 m pc ls (S.map (ftv G))) := by
  obtain ⟨hx, hb, hml, hown, hts, hlocks, hst, hG, hP⟩ := C
  obtain ⟨hM, hS, hl, hL, hSk, hk1, hn1⟩ := hs
  simp only [fok, Bool.and_eq_true, Bool.or_eq_true, decide_eq_true_eq] at hk
  obtain ⟨rfl, rfl⟩ := hk
  simp only [fstep] at h
  split at h
  · rename_i i q y h' S'
    cases hb0 : Nat.beq (fal q).1 4 <;> rw [hb0] at h
    · cases h
    have hc := Nat.eq_of_beq_eq_true hb0
    simp only [cond_true] at h
    split at h
    · rename_i hin
      refine fr_dald hx hb hP.1 hM (fin_frefs (fhd2 hSk) (by omega)) hc hin hd ?_
      exact K _ L (vD (μ.2.2 q y h' i.toNatClampNeg) :: S') μ k1 n1 H locs ls h ⟨hM, hS, hl, hL, fok_cons trivial (fok_tail (fok_tail hSk)), hk1, hn1⟩
    · cases h
  · cases h
theorem fs_iaload  (C : fCx G p l s m args meth c cc own nL) (hd : decode cc pc = .ok (.iaload, ln)) (hk : fok nL ret Z pc ln (.iaload, nx, a, b, v, ts) = true) (hscr : fScr G E.2.2.2 s) (K : fGo p l e R s m args below meth c G nL MC MS res k) (h : fstep E (.iaload, nx, a, b, v, ts) pc L S μ k1 n1 k = some res) (hs : fSt G s nL MC MS L S μ k1 n1 H locs ls) :
    W p l e R s m args below meth c H locs k1 n1 (vx_MQ below (fQ G res) (fXC G res) args s MC MS (fA G)) (F0 m pc ls (S.map (ftv G))) := by
  obtain ⟨hx, hb, hml, hown, hts, hlocks, hst, hG, hP⟩ := C
  obtain ⟨hM, hS, hl, hL, hSk, hk1, hn1⟩ := hs
  simp only [fok, Bool.and_eq_true, Bool.or_eq_true, decide_eq_true_eq] at hk
  obtain ⟨rfl, rfl⟩ := hk
  simp only [fstep] at h
  split at h
  · rename_i i q y h' S'
    cases hb5 : Nat.beq q 50 <;> rw [hb5] at h
    · simp only [cond_false] at h
      cases hb0 : Nat.beq (fal q).1 0 <;> rw [hb0] at h
      · cases h
      have hc := Nat.eq_of_beq_eq_true hb0
      simp only [cond_true] at h
      split at h
      · rename_i hin
        refine fr_iald hx hb hP.1 hM (fin_frefs (fhd2 hSk) (by omega)) hc hin hd ?_
        exact K _ L (vI (μ.1 q y h' i.toNatClampNeg) :: S') μ k1 n1 H locs ls h ⟨hM, hS, hl, hL, fok_cons trivial (fok_tail (fok_tail hSk)), hk1, hn1⟩
      · cases h
    · simp only [cond_true] at h
      cases hE : E.2.2.2 with
      | none => rw [hE] at h; cases h
      | some X =>
        rw [hE] at h hscr
        simp only at h
        split at h
        · rename_i hin
          have hq := Nat.eq_of_beq_eq_true hb5
          subst hq
          have h50 : (50, y, h') = (50, 0, 0) := f50 (fhd2 hSk)
          rw [show ((vI i :: Sum.inl (50, y, h') :: S').map (ftv G)) = (.int i :: .ref (G.1 (50, y, h')) :: S'.map (ftv G)) from rfl, h50]
          refine va_sld hx hb hscr.1 hscr.2.1 hscr.2.2 hS hin hd ?_
          exact K _ L (vI (X.2 i.toNatClampNeg) :: S') μ k1 n1 H locs ls h ⟨hM, hS, hl, hL, fok_cons trivial (fok_tail (fok_tail hSk)), hk1, hn1⟩
        · cases h
  · cases h
theorem fs_alen  (C : fCx G p l s m args meth c cc own nL) (hd : decode cc pc = .ok (.arraylength, ln)) (hk : fok nL ret Z pc ln (.arraylength, nx, a, b, v, ts) = true) (hscr : fScr G E.2.2.2 s) (K : fGo p l e R s m args below meth c G nL MC MS res k) (h : fstep E (.arraylength, nx, a, b, v, ts) pc L S μ k1 n1 k = some res) (hs : fSt G s nL MC MS L S μ k1 n1 H locs ls) :
    W p l e R s m args below meth c H locs k1 n1 (vx_MQ below (fQ G res) (fXC G res) args s MC MS (fA G)) (F0 m pc ls (S.map (ftv G))) := by
  obtain ⟨hx, hb, hml, hown, hts, hlocks, hst, hG, hP⟩ := C
  obtain ⟨hM, hS, hl, hL, hSk, hk1, hn1⟩ := hs
  simp only [fok, Bool.and_eq_true, Bool.or_eq_true, decide_eq_true_eq] at hk
  obtain ⟨rfl, rfl⟩ := hk
  simp only [fstep] at h
  split at h
  · rename_i q y h' S'
    cases hb5 : Nat.beq q 50 <;> rw [hb5] at h
    · cases h
    · simp only [cond_true] at h
      cases hE : E.2.2.2 with
      | none => rw [hE] at h; cases h
      | some X =>
        rw [hE] at h hscr
        simp only at h
        have hq := Nat.eq_of_beq_eq_true hb5
        subst hq
        have h50 : (50, y, h') = (50, 0, 0) := f50 (fhd1 hSk)
        rw [show ((Sum.inl (50, y, h') :: S').map (ftv G)) = (.ref (G.1 (50, y, h')) :: S'.map (ftv G)) from rfl, h50]
        refine va_slen hx hb hscr.1 hscr.2.1 hscr.2.2 hS hd ?_
        exact K _ L (vI (nI X.1) :: S') μ k1 n1 H locs ls h ⟨hM, hS, hl, hL, fok_cons trivial (fok_tail hSk), hk1, hn1⟩
  · cases h
theorem fs_aaload  (C : fCx G p l s m args meth c cc own nL) (hd : decode cc pc = .ok (.aaload, ln)) (hk : fok nL ret Z pc ln (.aaload, nx, a, b, v, ts) = true) (K : fGo p l e R s m args below meth c G nL MC MS res k) (h : fstep E (.aaload, nx, a, b, v, ts) pc L S μ k1 n1 k = some res) (hs : fSt G s nL MC MS L S μ k1 n1 H locs ls) :
    W p l e R s m args below meth c H locs k1 n1 (vx_MQ below (fQ G res) (fXC G res) args s MC MS (fA G)) (F0 m pc ls (S.map (ftv G))) := by
  obtain ⟨hx, hb, hml, hown, hts, hlocks, hst, hG, hP⟩ := C
  obtain ⟨hM, hS, hl, hL, hSk, hk1, hn1⟩ := hs
  simp only [fok, Bool.and_eq_true, Bool.or_eq_true, decide_eq_true_eq] at hk
  obtain ⟨rfl, rfl⟩ := hk
  simp only [fstep] at h
  split at h
  · rename_i i q y h' S'
    cases hb0 : (Nat.ble 5 (fal q).1 && Nat.ble (fal q).1 7) <;> rw [hb0] at h
    · cases h
    rw [Bool.and_eq_true] at hb0
    have hc1 := Nat.le_of_ble_eq_true hb0.1
    have hc2 := Nat.le_of_ble_eq_true hb0.2
    simp only [cond_true] at h
    split at h
    · rename_i hin
      have hr := fin_frefs (fhd2 hSk) (by omega)
      refine fr_aald hx hb hP.1 hM hr rfl ⟨hc1, hc2⟩ hin hd ?_
      exact K _ L (.inl (fel q y i.toNatClampNeg) :: S') μ k1 n1 H locs ls h ⟨hM, hS, hl, hL, fok_cons (Or.inl (fel_ok _ hr hc1 hc2 _ (Nat.not_le.mp fun z => hin (Or.inr z)))) (fok_tail (fok_tail hSk)), hk1, hn1⟩
    · cases h
  · cases h
theorem fs_iastore  (C : fCx G p l s m args meth c cc own nL) (hd : decode cc pc = .ok (.iastore, ln)) (hk : fok nL ret Z pc ln (.iastore, nx, a, b, v, ts) = true) (K : fGo p l e R s m args below meth c G nL MC MS res k) (h : fstep E (.iastore, nx, a, b, v, ts) pc L S μ k1 n1 k = some res) (hs : fSt G s nL MC MS L S μ k1 n1 H locs ls) :
    W p l e R s m args below meth c H locs k1 n1 (vx_MQ below (fQ G res) (fXC G res) args s MC MS (fA G)) (F0 m pc ls (S.map (ftv G))) := by
  obtain ⟨hx, hb, hml, hown, hts, hlocks, hst, hG, hP⟩ := C
  obtain ⟨hM, hS, hl, hL, hSk, hk1, hn1⟩ := hs
  simp only [fok, Bool.and_eq_true, Bool.or_eq_true, decide_eq_true_eq] at hk
  obtain ⟨rfl, rfl⟩ := hk
  simp only [fstep] at h
  split at h
  · rename_i x i q y h' S'
    cases hb0 : Nat.beq (fal q).1 0 <;> rw [hb0] at h
    · cases h
    have hc := Nat.eq_of_beq_eq_true hb0
    simp only [cond_true] at h
    split at h
    · rename_i hin
      refine fw_iast hx hb hP.1 hG hM hS (fin_frefs (fhd3 hSk) (by omega)) hc hin hd (fun H1 locs1 hM1 hS1 => ?_)
      exact K _ L S' (fI μ q y h' i.toNatClampNeg x) k1 n1 H1 locs1 ls h ⟨hM1, hS1, hl, hL, fok_tail (fok_tail (fok_tail hSk)), hk1, hn1⟩
    · cases h
  · cases h
theorem fs_bastore  (C : fCx G p l s m args meth c cc own nL) (hd : decode cc pc = .ok (.bastore, ln)) (hk : fok nL ret Z pc ln (.bastore, nx, a, b, v, ts) = true) (K : fGo p l e R s m args below meth c G nL MC MS res k) (h : fstep E (.bastore, nx, a, b, v, ts) pc L S μ k1 n1 k = some res) (hs : fSt G s nL MC MS L S μ k1 n1 H locs ls) :
    W p l e R s m args below meth c H locs k1 n1 (vx_MQ below (fQ G res) (fXC G res) args s MC MS (fA G)) (F0 m pc ls (S.map (ftv G))) := by
  obtain ⟨hx, hb, hml, hown, hts, hlocks, hst, hG, hP⟩ := C
  obtain ⟨hM, hS, hl, hL, hSk, hk1, hn1⟩ := hs
  simp only [fok, Bool.and_eq_true, Bool.or_eq_true, decide_eq_true_eq] at hk
  obtain ⟨rfl, rfl⟩ := hk
  simp only [fstep] at h
  split at h
  · rename_i x i q y h' S'
    cases hb0 : Nat.beq (fal q).1 1 <;> rw [hb0] at h
    · cases h
    have hc := Nat.eq_of_beq_eq_true hb0
    simp only [cond_true] at h
    split at h
    · rename_i hin
      refine fw_zast hx hb hP.1 hG hM hS (fin_frefs (fhd3 hSk) (by omega)) hc hin hd (fun H1 locs1 hM1 hS1 => ?_)
      exact K _ L S' (fI μ q y h' i.toNatClampNeg (fnar 1 x)) k1 n1 H1 locs1 ls h ⟨hM1, hS1, hl, hL, fok_tail (fok_tail (fok_tail hSk)), hk1, hn1⟩
    · cases h
  · cases h
theorem fs_castore  (C : fCx G p l s m args meth c cc own nL) (hd : decode cc pc = .ok (.castore, ln)) (hk : fok nL ret Z pc ln (.castore, nx, a, b, v, ts) = true) (K : fGo p l e R s m args below meth c G nL MC MS res k) (h : fstep E (.castore, nx, a, b, v, ts) pc L S μ k1 n1 k = some res) (hs : fSt G s nL MC MS L S μ k1 n1 H locs ls) :
    W p l e R s m args below meth c H locs k1 n1 (vx_MQ below (fQ G res) (fXC G res) args s MC MS (fA G)) (F0 m pc ls (S.map (ftv G))) := by
  obtain ⟨hx, hb, hml, hown, hts, hlocks, hst, hG, hP⟩ := C
  obtain ⟨hM, hS, hl, hL, hSk, hk1, hn1⟩ := hs
  simp only [fok, Bool.and_eq_true, Bool.or_eq_true, decide_eq_true_eq] at hk
  obtain ⟨rfl, rfl⟩ := hk
  simp only [fstep] at h
  split at h
  · rename_i x i q y h' S'
    cases hb0 : Nat.beq (fal q).1 2 <;> rw [hb0] at h
    · cases h
    have hc := Nat.eq_of_beq_eq_true hb0
    simp only [cond_true] at h
    split at h
    · rename_i hin
      refine fw_cast hx hb hP.1 hG hM hS (fin_frefs (fhd3 hSk) (by omega)) hc hin hd (fun H1 locs1 hM1 hS1 => ?_)
      exact K _ L S' (fI μ q y h' i.toNatClampNeg (fnar 2 x)) k1 n1 H1 locs1 ls h ⟨hM1, hS1, hl, hL, fok_tail (fok_tail (fok_tail hSk)), hk1, hn1⟩
    · cases h
  · cases h
theorem fs_lastore  (C : fCx G p l s m args meth c cc own nL) (hd : decode cc pc = .ok (.lastore, ln)) (hk : fok nL ret Z pc ln (.lastore, nx, a, b, v, ts) = true) (K : fGo p l e R s m args below meth c G nL MC MS res k) (h : fstep E (.lastore, nx, a, b, v, ts) pc L S μ k1 n1 k = some res) (hs : fSt G s nL MC MS L S μ k1 n1 H locs ls) :
    W p l e R s m args below meth c H locs k1 n1 (vx_MQ below (fQ G res) (fXC G res) args s MC MS (fA G)) (F0 m pc ls (S.map (ftv G))) := by
  obtain ⟨hx, hb, hml, hown, hts, hlocks, hst, hG, hP⟩ := C
  obtain ⟨hM, hS, hl, hL, hSk, hk1, hn1⟩ := hs
  simp only [fok, Bool.and_eq_true, Bool.or_eq_true, decide_eq_true_eq] at hk
  obtain ⟨rfl, rfl⟩ := hk
  simp only [fstep] at h
  split at h
  · rename_i x i q y h' S'
    cases hb0 : Nat.beq (fal q).1 3 <;> rw [hb0] at h
    · cases h
    have hc := Nat.eq_of_beq_eq_true hb0
    simp only [cond_true] at h
    split at h
    · rename_i hin
      refine fw_last hx hb hP.1 hG hM hS (fin_frefs (fhd3 hSk) (by omega)) hc hin hd (fun H1 locs1 hM1 hS1 => ?_)
      exact K _ L S' (fJ μ q y h' i.toNatClampNeg x) k1 n1 H1 locs1 ls h ⟨hM1, hS1, hl, hL, fok_tail (fok_tail (fok_tail hSk)), hk1, hn1⟩
    · cases h
  · cases h
theorem fs_dastore  (C : fCx G p l s m args meth c cc own nL) (hd : decode cc pc = .ok (.dastore, ln)) (hk : fok nL ret Z pc ln (.dastore, nx, a, b, v, ts) = true) (K : fGo p l e R s m args below meth c G nL MC MS res k) (h : fstep E (.dastore, nx, a, b, v, ts) pc L S μ k1 n1 k = some res) (hs : fSt G s nL MC MS L S μ k1 n1 H locs ls) :
    W p l e R s m args below meth c H locs k1 n1 (vx_MQ below (fQ G res) (fXC G res) args s MC MS (fA G)) (F0 m pc ls (S.map (ftv G))) := by
  obtain ⟨hx, hb, hml, hown, hts, hlocks, hst, hG, hP⟩ := C
  obtain ⟨hM, hS, hl, hL, hSk, hk1, hn1⟩ := hs
  simp only [fok, Bool.and_eq_true, Bool.or_eq_true, decide_eq_true_eq] at hk
  obtain ⟨rfl, rfl⟩ := hk
  simp only [fstep] at h
  split at h
  · rename_i x i q y h' S'
    cases hb0 : Nat.beq (fal q).1 4 <;> rw [hb0] at h
    · cases h
    have hc := Nat.eq_of_beq_eq_true hb0
    simp only [cond_true] at h
    split at h
    · rename_i hin
      refine fw_dast hx hb hP.1 hG hM hS (fin_frefs (fhd3 hSk) (by omega)) hc hin hd (fun H1 locs1 hM1 hS1 => ?_)
      exact K _ L S' (fD μ q y h' i.toNatClampNeg x) k1 n1 H1 locs1 ls h ⟨hM1, hS1, hl, hL, fok_tail (fok_tail (fok_tail hSk)), hk1, hn1⟩
    · cases h
  · cases h
theorem ffl_any {Z1 : List (Nat × Nat × Nat × Nat)} {x a b : Nat} (hfl : ffl_ok own Z1) (h : Z1.any (fun q => decide (q.1 = x) && (decide (q.2.1 = a) && decide (q.2.2.1 = b))) = true) : ∃ z, ffw own (x, a, b, z) ∈ fT := by
  obtain ⟨q, hq, h2⟩ := List.any_eq_true.mp h
  simp only [Bool.and_eq_true, decide_eq_true_eq] at h2
  obtain ⟨e1, e2, e3⟩ := h2
  refine ⟨q.2.2.2, ?_⟩
  rw [← e1, ← e2, ← e3]
  exact hfl q hq
theorem ffv_0 {μ : fM} {c y h k : Nat} (hc : (fkfL.getD c []).getD k 0 < 2) : ffv μ c y h k = vI (μ.1 c y h k) := by
  unfold ffv
  have : (fkfL.getD c []).getD k 0 = 0 ∨ (fkfL.getD c []).getD k 0 = 1 := by omega
  rcases this with e | e <;> (rw [e]; rfl)
theorem ffv_2 {μ : fM} {c y h k : Nat} (hc : (fkfL.getD c []).getD k 0 = 2) : ffv μ c y h k = vL (μ.2.1 c y h k) := by
  unfold ffv
  rw [hc]
  rfl
theorem ffv_3 {μ : fM} {c y h k : Nat} (hc : 2 < (fkfL.getD c []).getD k 0) : ffv μ c y h k = .inl (ftgt ((frfL.getD c []).getD k (0, 0, 0, 0, 0)) y h) := by
  unfold ffv
  split <;> first | rfl | omega
theorem fs_getfield {x : Nat} (C : fCx G p l s m args meth c cc own nL) (hd : decode cc pc = .ok (.getfield x, ln)) (hk : fok nL ret Z pc ln (.getfield x, nx, a, b, v, ts) = true) (hfl : ffl_ok own Z.1) (K : fGo p l e R s m args below meth c G nL MC MS res k) (h : fstep E (.getfield x, nx, a, b, v, ts) pc L S μ k1 n1 k = some res) (hs : fSt G s nL MC MS L S μ k1 n1 H locs ls) :
    W p l e R s m args below meth c H locs k1 n1 (vx_MQ below (fQ G res) (fXC G res) args s MC MS (fA G)) (F0 m pc ls (S.map (ftv G))) := by
  obtain ⟨hx, hb, hml, hown, hts, hlocks, hst, hG, hP⟩ := C
  obtain ⟨hM, hS, hl, hL, hSk, hk1, hn1⟩ := hs
  simp only [fok, Bool.and_eq_true, Bool.or_eq_true, decide_eq_true_eq] at hk
  obtain ⟨rfl, rfl, hany, ha, hbk, hts2⟩ := hk
  obtain ⟨z, hl9⟩ := ffl_any hfl hany
  simp only [fstep] at h
  split at h
  · rename_i q y h' S'
    cases hb0 : Nat.beq q a <;> rw [hb0] at h
    · cases h
    have hq := Nat.eq_of_beq_eq_true hb0
    subst hq
    have hr : (q, y, h') ∈ frefs := by
      rcases fhd1 hSk with hv | hv
      · exact hv
      · exact absurd hv.1 (by show ¬ 50 ≤ q; omega)
    refine fr_get hx hb hts hown hP.1 hM hr ha hbk hl9 hd ?_
    simp only [cond_true] at h
    split at h
    · simp only [decide_eq_true_eq] at hts2
      rw [ffv_0 hts2]
      exact K _ L (vI (μ.1 q y h' b) :: S') μ k1 n1 H locs ls h ⟨hM, hS, hl, hL, fok_cons trivial (fok_tail hSk), hk1, hn1⟩
    · simp only [decide_eq_true_eq] at hts2
      rw [ffv_2 hts2]
      exact K _ L (vL (μ.2.1 q y h' b) :: S') μ k1 n1 H locs ls h ⟨hM, hS, hl, hL, fok_cons trivial (fok_tail hSk), hk1, hn1⟩
    · simp only [Bool.and_eq_true, decide_eq_true_eq] at hts2
      have hv3 := frf_ok (q, y, h') hr ha b hbk hts2.1
      rw [ffv_3 hts2.1]
      simp only [hts2.2] at hv3 ⊢
      exact K _ L (.inl _ :: S') μ k1 n1 H locs ls h ⟨hM, hS, hl, hL, fok_cons hv3 (fok_tail hSk), hk1, hn1⟩
    · cases h
  · cases h
theorem fs_putfield {x : Nat} (C : fCx G p l s m args meth c cc own nL) (hd : decode cc pc = .ok (.putfield x, ln)) (hk : fok nL ret Z pc ln (.putfield x, nx, a, b, v, ts) = true) (hfl : ffl_ok own Z.1) (K : fGo p l e R s m args below meth c G nL MC MS res k) (h : fstep E (.putfield x, nx, a, b, v, ts) pc L S μ k1 n1 k = some res) (hs : fSt G s nL MC MS L S μ k1 n1 H locs ls) :
    W p l e R s m args below meth c H locs k1 n1 (vx_MQ below (fQ G res) (fXC G res) args s MC MS (fA G)) (F0 m pc ls (S.map (ftv G))) := by
  obtain ⟨hx, hb, hml, hown, hts, hlocks, hst, hG, hP⟩ := C
  obtain ⟨hM, hS, hl, hL, hSk, hk1, hn1⟩ := hs
  simp only [fok, Bool.and_eq_true, Bool.or_eq_true, decide_eq_true_eq] at hk
  obtain ⟨rfl, rfl, hany, ha, hbk, hfin, hts2⟩ := hk
  obtain ⟨z, hl9⟩ := ffl_any hfl hany
  simp only [fstep] at h
  split at h
  · rename_i w q y h' S'
    cases hb0 : Nat.beq q a <;> rw [hb0] at h
    · cases h
    have hq := Nat.eq_of_beq_eq_true hb0
    subst hq
    have hr : (q, y, h') ∈ frefs := by
      rcases fhd2 hSk with hv | hv
      · exact hv
      · exact absurd hv.1 (by show ¬ 50 ≤ q; omega)
    have h51 : q ≠ 51 := by omega
    simp only [cond_true] at h
    split at h
    · simp only [decide_eq_true_eq] at hts2
      refine fw_put (v := .int w) (μ' := fI μ q y h' b w) (ty := .int) hx hb hts hown hP.1 hG hM hS hr ha hbk hl9 hfin (by rw [fcty_ok q ha b hbk (by omega), hts2]; rfl) rfl rfl (ffs_fI hbk (Or.inl hts2)) (fun r' _ hne => fcell_fI_ne hne) (fI51 h51) hd (fun H1 locs1 hM1 hS1 => ?_)
      exact K _ L S' (fI μ q y h' b w) k1 n1 H1 locs1 ls h ⟨hM1, hS1, hl, hL, fok_tail (fok_tail hSk), hk1, hn1⟩
    · simp only [decide_eq_true_eq] at hts2
      split at h
      · rename_i hw
        refine fw_put (v := .int w) (μ' := fI μ q y h' b w) (ty := .boolean) hx hb hts hown hP.1 hG hM hS hr ha hbk hl9 hfin (by rw [fcty_ok q ha b hbk (by omega), hts2]; rfl) (by rcases hw with rfl | rfl <;> rfl) (by rcases hw with rfl | rfl <;> rfl) (ffs_fI hbk (Or.inr hts2)) (fun r' _ hne => fcell_fI_ne hne) (fI51 h51) hd (fun H1 locs1 hM1 hS1 => ?_)
        exact K _ L S' (fI μ q y h' b w) k1 n1 H1 locs1 ls h ⟨hM1, hS1, hl, hL, fok_tail (fok_tail hSk), hk1, hn1⟩
      · cases h
    · cases h
  · rename_i w q y h' S'
    cases hb0 : Nat.beq q a <;> rw [hb0] at h
    · cases h
    have hq := Nat.eq_of_beq_eq_true hb0
    subst hq
    have hr : (q, y, h') ∈ frefs := by
      rcases fhd2 hSk with hv | hv
      · exact hv
      · exact absurd hv.1 (by show ¬ 50 ≤ q; omega)
    simp only [cond_true] at h
    split at h
    · simp only [decide_eq_true_eq] at hts2
      refine fw_put (v := .long w) (μ' := fJ μ q y h' b w) (ty := .long) hx hb hts hown hP.1 hG hM hS hr ha hbk hl9 hfin (by rw [fcty_ok q ha b hbk (by omega), hts2]; rfl) rfl rfl (ffs_fJ hbk hts2) (fun r' _ hne => fcell_fJ_ne hne) (fun _ _ => rfl) hd (fun H1 locs1 hM1 hS1 => ?_)
      exact K _ L S' (fJ μ q y h' b w) k1 n1 H1 locs1 ls h ⟨hM1, hS1, hl, hL, fok_tail (fok_tail hSk), hk1, hn1⟩
    · cases h
  · cases h
end FSND2
