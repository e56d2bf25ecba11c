/-! SOUNDNESS, instruction by instruction -/
def fSt (G : fG) (s : State) (nL MC MS : Nat) (L : List (Option fV)) (S : List fV) (μ : fM) (k n : Nat) (H : Heap) (locs : List Loc) (ls : Array Slot) : Prop :=
  fMem G μ H ∧ va_S (fA G) s.heap H locs ∧ fLH G ls nL L ∧ (∀ (i : Nat) (v : fV), L[i]? = some (some v) → fVok v) ∧ (∀ v ∈ S, fVok v) ∧ k ≤ MC ∧ n ≤ MS
def fGo (p : Program) (l : Launch) (e : Env) (R : Room) (s : State) (m : MethodId) (args : Array Value) (below : List Frame) (meth : Method) (c : Code) (G : fG) (nL MC MS : Nat) (res : fR) (k : fK) : Prop :=
  ∀ (pc : Nat) (L : List (Option fV)) (S : List fV) (μ : fM) (k1 n1 : Nat) (H : Heap) (locs : List Loc) (ls : Array Slot), k pc L S μ k1 n1 = some res → fSt G s nL MC MS L S μ k1 n1 H locs ls →
    W p l e R s m args below meth c H locs k1 n1 (vx_MQ below (fQ G res) (fXC G res) args s MC MS (fA G)) (F0 m pc ls (S.map (ftv G)))
theorem fdrop_ok {L : List (Option fV)} (h : ∀ (i : Nat) (v : fV), L[i]? = some (some v) → fVok v) (a : Nat) : ∀ (i : Nat) (v : fV), (fdrop L a)[i]? = some (some v) → fVok v := fun i v hi => h i v (fdrop_at hi).1
theorem fput1_ok {L : List (Option fV)} (h : ∀ (i : Nat) (v : fV), L[i]? = some (some v) → fVok v) {a : Nat} {w : Option fV} (hw : ∀ v, w = some v → fVok v) : ∀ (i : Nat) (v : fV), (fput1 L a w)[i]? = some (some v) → fVok v := by
  intro i v hi
  unfold fput1 at hi
  rw [List.getElem?_set] at hi
  split at hi
  · split at hi
    · exact hw v (Option.some.inj hi)
    · cases hi
  · exact fdrop_ok h a i v hi
theorem fput2_ok {L : List (Option fV)} (h : ∀ (i : Nat) (v : fV), L[i]? = some (some v) → fVok v) {a : Nat} {w : fV} (hw : fVok w) : ∀ (i : Nat) (v : fV), (fput2 L a w)[i]? = some (some v) → fVok v := by
  intro i v hi
  unfold fput2 at hi
  rw [List.getElem?_set] at hi
  split at hi
  · split at hi <;> cases hi
  · exact fput1_ok h (a := a) (w := some w) (fun v hv => by cases hv; exact hw) i v (by unfold fput1; exact hi)
theorem fok_cons {S : List fV} {v : fV} (hv : fVok v) (h : ∀ x ∈ S, fVok x) : ∀ x ∈ v :: S, fVok x := fun x hx => (List.mem_cons.mp hx).elim (fun e => e ▸ hv) (h x)
theorem fok_tail {S : List fV} {v : fV} (h : ∀ x ∈ v :: S, fVok x) : ∀ x ∈ S, fVok x := fun x hx => h x (List.mem_cons_of_mem _ hx)
section FSND
variable {p : Program} {l : Launch} {e : Env} {R : Room} {s : State} {m : MethodId} {args : Array Value} {below : List Frame} {meth : Method} {c : Code} {G : fG} {cc : ByteArray} {own : String} {nL MC MS : Nat} {res : fR}
variable {ret : Option FieldType} {Z : fT5} {E : fE} {k : fK} {ln nx a b : Nat} {v : Int32} {ts : List Nat} {pc : Nat} {L : List (Option fV)} {S : List fV} {μ : fM} {k1 n1 : Nat} {H : Heap} {locs : List Loc} {ls : Array Slot}
theorem fld {t : Nat} {kk : fV → Option fR} (h : fload L a t kk = some res) : ∃ x, L[a]? = some (some x) ∧ ftag x = t ∧ kk x = some res := by
  unfold fload at h
  split at h
  · rename_i x hx
    cases hb : Nat.beq (ftag x) t <;> rw [hb] at h
    · cases h
    · exact ⟨x, hx, Nat.eq_of_beq_eq_true hb, h⟩
  · cases h
theorem ftag0 {x : fV} (h : ftag x = 0) : ∃ r, x = .inl r := by
  rcases x with r | r | r | r <;> first | exact ⟨_, rfl⟩ | cases h
theorem ftag1 {x : fV} (h : ftag x = 1) : ∃ r, x = vI r := by
  rcases x with r | r | r | r <;> first | exact ⟨_, rfl⟩ | cases h
theorem ftag2 {x : fV} (h : ftag x = 2) : ∃ r, x = vL r := by
  rcases x with r | r | r | r <;> first | exact ⟨_, rfl⟩ | cases h
theorem ftag3 {x : fV} (h : ftag x = 3) : ∃ r, x = vD r := by
  rcases x with r | r | r | r <;> first | exact ⟨_, rfl⟩ | cases h
theorem ftag01 {x : fV} (h : Nat.ble (ftag x) 1 = true) : (ftv G x).category = 1 := by
  rcases x with r | r | r | r <;> first | rfl | cases h
theorem fs_iconst {n : Int} (C : fCx G p l s m args meth c cc own nL) (hd : decode cc pc = .ok (.iconst n, ln)) (hk : fok nL ret Z pc ln (.iconst n, nx, a, b, v, ts) = true) (K : fGo p l e R s m args below meth c G nL MC MS res k) (h : fstep E (.iconst n, nx, a, b, v, ts) pc L S μ k1 n1 k = some res) (hs : fSt G s nL MC MS L S μ k1 n1 H locs ls) :
    W p l e R s m args below meth c H locs k1 n1 (vx_MQ below (fQ G res) (fXC G res) args s MC MS (fA G)) (F0 m pc ls (S.map (ftv G))) := by
  obtain ⟨hx, hb, hml, hown, hts, hlocks, hst, hG, hP⟩ := C
  obtain ⟨hM, hS, hl, hL, hSk, hk1, hn1⟩ := hs
  simp only [fok, Bool.and_eq_true, Bool.or_eq_true, decide_eq_true_eq] at hk
  obtain ⟨rfl, rfl, hv⟩ := hk
  refine lv_iconst (v := v) hx hb hd hv.symm ?_
  exact K _ L (vI v :: S) μ k1 n1 H locs ls h ⟨hM, hS, hl, hL, fok_cons trivial hSk, hk1, hn1⟩
theorem fs_bipush {n : Int} (C : fCx G p l s m args meth c cc own nL) (hd : decode cc pc = .ok (.bipush n, ln)) (hk : fok nL ret Z pc ln (.bipush n, nx, a, b, v, ts) = true) (K : fGo p l e R s m args below meth c G nL MC MS res k) (h : fstep E (.bipush n, nx, a, b, v, ts) pc L S μ k1 n1 k = some res) (hs : fSt G s nL MC MS L S μ k1 n1 H locs ls) :
    W p l e R s m args below meth c H locs k1 n1 (vx_MQ below (fQ G res) (fXC G res) args s MC MS (fA G)) (F0 m pc ls (S.map (ftv G))) := by
  obtain ⟨hx, hb, hml, hown, hts, hlocks, hst, hG, hP⟩ := C
  obtain ⟨hM, hS, hl, hL, hSk, hk1, hn1⟩ := hs
  simp only [fok, Bool.and_eq_true, Bool.or_eq_true, decide_eq_true_eq] at hk
  obtain ⟨rfl, rfl, hv⟩ := hk
  refine lv_bipush (v := v) hx hb hd hv.symm ?_
  exact K _ L (vI v :: S) μ k1 n1 H locs ls h ⟨hM, hS, hl, hL, fok_cons trivial hSk, hk1, hn1⟩
theorem fs_sipush {n : Int} (C : fCx G p l s m args meth c cc own nL) (hd : decode cc pc = .ok (.sipush n, ln)) (hk : fok nL ret Z pc ln (.sipush n, nx, a, b, v, ts) = true) (K : fGo p l e R s m args below meth c G nL MC MS res k) (h : fstep E (.sipush n, nx, a, b, v, ts) pc L S μ k1 n1 k = some res) (hs : fSt G s nL MC MS L S μ k1 n1 H locs ls) :
    W p l e R s m args below meth c H locs k1 n1 (vx_MQ below (fQ G res) (fXC G res) args s MC MS (fA G)) (F0 m pc ls (S.map (ftv G))) := by
  obtain ⟨hx, hb, hml, hown, hts, hlocks, hst, hG, hP⟩ := C
  obtain ⟨hM, hS, hl, hL, hSk, hk1, hn1⟩ := hs
  simp only [fok, Bool.and_eq_true, Bool.or_eq_true, decide_eq_true_eq] at hk
  obtain ⟨rfl, rfl, hv⟩ := hk
  refine lv_sipush (v := v) hx hb hd hv.symm ?_
  exact K _ L (vI v :: S) μ k1 n1 H locs ls h ⟨hM, hS, hl, hL, fok_cons trivial hSk, hk1, hn1⟩
theorem fs_lconst {n : Fin 2} (C : fCx G p l s m args meth c cc own nL) (hd : decode cc pc = .ok (.lconst n, ln)) (hk : fok nL ret Z pc ln (.lconst n, nx, a, b, v, ts) = true) (K : fGo p l e R s m args below meth c G nL MC MS res k) (h : fstep E (.lconst n, nx, a, b, v, ts) pc L S μ k1 n1 k = some res) (hs : fSt G s nL MC MS L S μ k1 n1 H locs ls) :
    W p l e R s m args below meth c H locs k1 n1 (vx_MQ below (fQ G res) (fXC G res) args s MC MS (fA G)) (F0 m pc ls (S.map (ftv G))) := by
  obtain ⟨hx, hb, hml, hown, hts, hlocks, hst, hG, hP⟩ := C
  obtain ⟨hM, hS, hl, hL, hSk, hk1, hn1⟩ := hs
  simp only [fok, Bool.and_eq_true, Bool.or_eq_true, decide_eq_true_eq] at hk
  obtain ⟨rfl, rfl, hv⟩ := hk
  refine lv_lconst (v := Int64.ofNat a) hx hb hd (by rw [hv]) ?_
  exact K _ L (vL (Int64.ofNat a) :: S) μ k1 n1 H locs ls h ⟨hM, hS, hl, hL, fok_cons trivial hSk, hk1, hn1⟩
theorem fs_dconst {n : Fin 2} (C : fCx G p l s m args meth c cc own nL) (hd : decode cc pc = .ok (.dconst n, ln)) (hk : fok nL ret Z pc ln (.dconst n, nx, a, b, v, ts) = true) (K : fGo p l e R s m args below meth c G nL MC MS res k) (h : fstep E (.dconst n, nx, a, b, v, ts) pc L S μ k1 n1 k = some res) (hs : fSt G s nL MC MS L S μ k1 n1 H locs ls) :
    W p l e R s m args below meth c H locs k1 n1 (vx_MQ below (fQ G res) (fXC G res) args s MC MS (fA G)) (F0 m pc ls (S.map (ftv G))) := by
  obtain ⟨hx, hb, hml, hown, hts, hlocks, hst, hG, hP⟩ := C
  obtain ⟨hM, hS, hl, hL, hSk, hk1, hn1⟩ := hs
  simp only [fok, Bool.and_eq_true, Bool.or_eq_true, decide_eq_true_eq] at hk
  obtain ⟨rfl, rfl, hv⟩ := hk
  simp only [fstep] at h
  cases hb0 : Nat.beq a 0 <;> rw [hb0] at h
  · cases h
  · have e0 : n = 0 := by
      have := Nat.eq_of_beq_eq_true hb0
      exact Fin.ext (by rw [← hv, this]; rfl)
    subst e0
    refine lv_dconst0 hx hb hd ?_
    exact K _ L (vD FP.dconst0 :: S) μ k1 n1 H locs ls h ⟨hM, hS, hl, hL, fok_cons trivial hSk, hk1, hn1⟩
theorem fs_ldc2 {n : Nat} (C : fCx G p l s m args meth c cc own nL) (hd : decode cc pc = .ok (.ldc2_w n, ln)) (hk : fok nL ret Z pc ln (.ldc2_w n, nx, a, b, v, ts) = true) (hlc : ∀ q ∈ Z.2.2.2.1, Jvm.Cond.constantLong own q.1 (Int64.ofNat q.2) ∈ fT) (K : fGo p l e R s m args below meth c G nL MC MS res k) (h : fstep E (.ldc2_w n, nx, a, b, v, ts) pc L S μ k1 n1 k = some res) (hs : fSt G s nL MC MS L S μ k1 n1 H locs ls) :
    W p l e R s m args below meth c H locs k1 n1 (vx_MQ below (fQ G res) (fXC G res) args s MC MS (fA G)) (F0 m pc ls (S.map (ftv G))) := by
  obtain ⟨hx, hb, hml, hown, hts, hlocks, hst, hG, hP⟩ := C
  obtain ⟨hM, hS, hl, hL, hSk, hk1, hn1⟩ := hs
  simp only [fok, Bool.and_eq_true, Bool.or_eq_true, decide_eq_true_eq] at hk
  obtain ⟨rfl, rfl, hv⟩ := hk
  refine lv_ldc2 (v := Int64.ofNat a) hx hb hown (hts _ (hlc (n, a) hv)) hd ?_
  exact K _ L (vL (Int64.ofNat a) :: S) μ k1 n1 H locs ls h ⟨hM, hS, hl, hL, fok_cons trivial hSk, hk1, hn1⟩
theorem fs_ldc {n : Nat} (C : fCx G p l s m args meth c cc own nL) (hd : decode cc pc = .ok (.ldc n, ln)) (hk : fok nL ret Z pc ln (.ldc n, nx, a, b, v, ts) = true) (hli : ∀ q ∈ Z.2.2.2.2.1, Jvm.Cond.constant own q.1 q.2 ∈ fT) (hlst : ∀ q ∈ Z.2.2.2.2.2, vk_R own q.1 (fForm.getD q.2 (0, "")).2 (G.1 (52, q.2, 0)) s) (K : fGo p l e R s m args below meth c G nL MC MS res k) (h : fstep E (.ldc n, nx, a, b, v, ts) pc L S μ k1 n1 k = some res) (hs : fSt G s nL MC MS L S μ k1 n1 H locs ls) :
    W p l e R s m args below meth c H locs k1 n1 (vx_MQ below (fQ G res) (fXC G res) args s MC MS (fA G)) (F0 m pc ls (S.map (ftv G))) := by
  obtain ⟨hx, hb, hml, hown, hts, hlocks, hst, hG, hP⟩ := C
  obtain ⟨hM, hS, hl, hL, hSk, hk1, hn1⟩ := hs
  simp only [fok, Bool.and_eq_true, Bool.or_eq_true, decide_eq_true_eq] at hk
  obtain ⟨rfl, rfl, hv⟩ := hk
  simp only [fstep] at h
  cases hb0 : Nat.beq b 1 <;> rw [hb0] at h hv
  · simp only [cond_false, decide_eq_true_eq] at h hv
    refine va_ldcS hx hb hown (hlst _ hv) hd ?_
    exact K _ L (vR 52 a 0 :: S) μ k1 n1 H locs ls h ⟨hM, hS, hl, hL, fok_cons (Or.inr ⟨show 50 ≤ 52 by decide, Or.inl rfl, rfl⟩) hSk, hk1, hn1⟩
  · simp only [cond_true, decide_eq_true_eq] at h hv
    refine lv_ldc (v := v) hx hb hown (hts _ (hli _ hv)) hd ?_
    exact K _ L (vI v :: S) μ k1 n1 H locs ls h ⟨hM, hS, hl, hL, fok_cons trivial hSk, hk1, hn1⟩
theorem fs_ldcw {n : Nat} (C : fCx G p l s m args meth c cc own nL) (hd : decode cc pc = .ok (.ldc_w n, ln)) (hk : fok nL ret Z pc ln (.ldc_w n, nx, a, b, v, ts) = true) (hli : ∀ q ∈ Z.2.2.2.2.1, Jvm.Cond.constant own q.1 q.2 ∈ fT) (K : fGo p l e R s m args below meth c G nL MC MS res k) (h : fstep E (.ldc_w n, nx, a, b, v, ts) pc L S μ k1 n1 k = some res) (hs : fSt G s nL MC MS L S μ k1 n1 H locs ls) :
    W p l e R s m args below meth c H locs k1 n1 (vx_MQ below (fQ G res) (fXC G res) args s MC MS (fA G)) (F0 m pc ls (S.map (ftv G))) := by
  obtain ⟨hx, hb, hml, hown, hts, hlocks, hst, hG, hP⟩ := C
  obtain ⟨hM, hS, hl, hL, hSk, hk1, hn1⟩ := hs
  simp only [fok, Bool.and_eq_true, Bool.or_eq_true, decide_eq_true_eq] at hk
  obtain ⟨rfl, rfl, hv⟩ := hk
  simp only [fstep] at h
  cases hb0 : Nat.beq b 1 <;> rw [hb0] at h
  · cases h
  · simp only [cond_true] at h
    refine lv_ldcw (v := v) hx hb hown (hts _ (hli _ hv)) hd ?_
    exact K _ L (vI v :: S) μ k1 n1 H locs ls h ⟨hM, hS, hl, hL, fok_cons trivial hSk, hk1, hn1⟩
theorem fs_iload {i : Nat} (C : fCx G p l s m args meth c cc own nL) (hd : decode cc pc = .ok (.iload i, ln)) (hk : fok nL ret Z pc ln (.iload i, nx, a, b, v, ts) = true) (K : fGo p l e R s m args below meth c G nL MC MS res k) (h : fstep E (.iload i, nx, a, b, v, ts) pc L S μ k1 n1 k = some res) (hs : fSt G s nL MC MS L S μ k1 n1 H locs ls) :
    W p l e R s m args below meth c H locs k1 n1 (vx_MQ below (fQ G res) (fXC G res) args s MC MS (fA G)) (F0 m pc ls (S.map (ftv G))) := by
  obtain ⟨hx, hb, hml, hown, hts, hlocks, hst, hG, hP⟩ := C
  obtain ⟨hM, hS, hl, hL, hSk, hk1, hn1⟩ := hs
  simp only [fok, Bool.and_eq_true, Bool.or_eq_true, decide_eq_true_eq] at hk
  obtain ⟨rfl, rfl, rfl⟩ := hk
  obtain ⟨x, hx1, hx2, hx3⟩ := fld h
  obtain ⟨r, rfl⟩ := ftag1 hx2
  refine lv_iload hx hb hd (hl.2.2.2 _ _ hx1) ?_
  exact K _ L (_ :: S) μ k1 n1 H locs ls hx3 ⟨hM, hS, hl, hL, fok_cons (hL _ _ hx1) hSk, hk1, hn1⟩
theorem fs_aload {i : Nat} (C : fCx G p l s m args meth c cc own nL) (hd : decode cc pc = .ok (.aload i, ln)) (hk : fok nL ret Z pc ln (.aload i, nx, a, b, v, ts) = true) (K : fGo p l e R s m args below meth c G nL MC MS res k) (h : fstep E (.aload i, nx, a, b, v, ts) pc L S μ k1 n1 k = some res) (hs : fSt G s nL MC MS L S μ k1 n1 H locs ls) :
    W p l e R s m args below meth c H locs k1 n1 (vx_MQ below (fQ G res) (fXC G res) args s MC MS (fA G)) (F0 m pc ls (S.map (ftv G))) := by
  obtain ⟨hx, hb, hml, hown, hts, hlocks, hst, hG, hP⟩ := C
  obtain ⟨hM, hS, hl, hL, hSk, hk1, hn1⟩ := hs
  simp only [fok, Bool.and_eq_true, Bool.or_eq_true, decide_eq_true_eq] at hk
  obtain ⟨rfl, rfl, rfl⟩ := hk
  obtain ⟨x, hx1, hx2, hx3⟩ := fld h
  obtain ⟨r, rfl⟩ := ftag0 hx2
  refine lv_aload hx hb hd (hl.2.2.2 _ _ hx1) ?_
  exact K _ L (_ :: S) μ k1 n1 H locs ls hx3 ⟨hM, hS, hl, hL, fok_cons (hL _ _ hx1) hSk, hk1, hn1⟩
theorem fs_lload {i : Nat} (C : fCx G p l s m args meth c cc own nL) (hd : decode cc pc = .ok (.lload i, ln)) (hk : fok nL ret Z pc ln (.lload i, nx, a, b, v, ts) = true) (K : fGo p l e R s m args below meth c G nL MC MS res k) (h : fstep E (.lload i, nx, a, b, v, ts) pc L S μ k1 n1 k = some res) (hs : fSt G s nL MC MS L S μ k1 n1 H locs ls) :
    W p l e R s m args below meth c H locs k1 n1 (vx_MQ below (fQ G res) (fXC G res) args s MC MS (fA G)) (F0 m pc ls (S.map (ftv G))) := by
  obtain ⟨hx, hb, hml, hown, hts, hlocks, hst, hG, hP⟩ := C
  obtain ⟨hM, hS, hl, hL, hSk, hk1, hn1⟩ := hs
  simp only [fok, Bool.and_eq_true, Bool.or_eq_true, decide_eq_true_eq] at hk
  obtain ⟨rfl, rfl, rfl⟩ := hk
  obtain ⟨x, hx1, hx2, hx3⟩ := fld h
  obtain ⟨r, rfl⟩ := ftag2 hx2
  refine lv_lload hx hb hd (hl.2.2.2 _ _ hx1) ?_
  exact K _ L (_ :: S) μ k1 n1 H locs ls hx3 ⟨hM, hS, hl, hL, fok_cons (hL _ _ hx1) hSk, hk1, hn1⟩
theorem fs_dload {i : Nat} (C : fCx G p l s m args meth c cc own nL) (hd : decode cc pc = .ok (.dload i, ln)) (hk : fok nL ret Z pc ln (.dload i, nx, a, b, v, ts) = true) (K : fGo p l e R s m args below meth c G nL MC MS res k) (h : fstep E (.dload i, nx, a, b, v, ts) pc L S μ k1 n1 k = some res) (hs : fSt G s nL MC MS L S μ k1 n1 H locs ls) :
    W p l e R s m args below meth c H locs k1 n1 (vx_MQ below (fQ G res) (fXC G res) args s MC MS (fA G)) (F0 m pc ls (S.map (ftv G))) := by
  obtain ⟨hx, hb, hml, hown, hts, hlocks, hst, hG, hP⟩ := C
  obtain ⟨hM, hS, hl, hL, hSk, hk1, hn1⟩ := hs
  simp only [fok, Bool.and_eq_true, Bool.or_eq_true, decide_eq_true_eq] at hk
  obtain ⟨rfl, rfl, rfl⟩ := hk
  obtain ⟨x, hx1, hx2, hx3⟩ := fld h
  obtain ⟨r, rfl⟩ := ftag3 hx2
  refine lv_dload hx hb hd (hl.2.2.2 _ _ hx1) ?_
  exact K _ L (_ :: S) μ k1 n1 H locs ls hx3 ⟨hM, hS, hl, hL, fok_cons (hL _ _ hx1) hSk, hk1, hn1⟩
theorem fs_iload_n {i : Fin 4} (C : fCx G p l s m args meth c cc own nL) (hd : decode cc pc = .ok (.iload_n i, ln)) (hk : fok nL ret Z pc ln (.iload_n i, nx, a, b, v, ts) = true) (K : fGo p l e R s m args below meth c G nL MC MS res k) (h : fstep E (.iload_n i, nx, a, b, v, ts) pc L S μ k1 n1 k = some res) (hs : fSt G s nL MC MS L S μ k1 n1 H locs ls) :
    W p l e R s m args below meth c H locs k1 n1 (vx_MQ below (fQ G res) (fXC G res) args s MC MS (fA G)) (F0 m pc ls (S.map (ftv G))) := by
  obtain ⟨hx, hb, hml, hown, hts, hlocks, hst, hG, hP⟩ := C
  obtain ⟨hM, hS, hl, hL, hSk, hk1, hn1⟩ := hs
  simp only [fok, Bool.and_eq_true, Bool.or_eq_true, decide_eq_true_eq] at hk
  obtain ⟨rfl, rfl, rfl⟩ := hk
  obtain ⟨x, hx1, hx2, hx3⟩ := fld h
  obtain ⟨r, rfl⟩ := ftag1 hx2
  refine lv_iload_n hx hb hd rfl (hl.2.2.2 _ _ hx1) ?_
  exact K _ L (_ :: S) μ k1 n1 H locs ls hx3 ⟨hM, hS, hl, hL, fok_cons (hL _ _ hx1) hSk, hk1, hn1⟩
theorem fs_aload_n {i : Fin 4} (C : fCx G p l s m args meth c cc own nL) (hd : decode cc pc = .ok (.aload_n i, ln)) (hk : fok nL ret Z pc ln (.aload_n i, nx, a, b, v, ts) = true) (K : fGo p l e R s m args below meth c G nL MC MS res k) (h : fstep E (.aload_n i, nx, a, b, v, ts) pc L S μ k1 n1 k = some res) (hs : fSt G s nL MC MS L S μ k1 n1 H locs ls) :
    W p l e R s m args below meth c H locs k1 n1 (vx_MQ below (fQ G res) (fXC G res) args s MC MS (fA G)) (F0 m pc ls (S.map (ftv G))) := by
  obtain ⟨hx, hb, hml, hown, hts, hlocks, hst, hG, hP⟩ := C
  obtain ⟨hM, hS, hl, hL, hSk, hk1, hn1⟩ := hs
  simp only [fok, Bool.and_eq_true, Bool.or_eq_true, decide_eq_true_eq] at hk
  obtain ⟨rfl, rfl, rfl⟩ := hk
  obtain ⟨x, hx1, hx2, hx3⟩ := fld h
  obtain ⟨r, rfl⟩ := ftag0 hx2
  refine lv_aload_n hx hb hd rfl (hl.2.2.2 _ _ hx1) ?_
  exact K _ L (_ :: S) μ k1 n1 H locs ls hx3 ⟨hM, hS, hl, hL, fok_cons (hL _ _ hx1) hSk, hk1, hn1⟩
theorem fs_lload_n {i : Fin 4} (C : fCx G p l s m args meth c cc own nL) (hd : decode cc pc = .ok (.lload_n i, ln)) (hk : fok nL ret Z pc ln (.lload_n i, nx, a, b, v, ts) = true) (K : fGo p l e R s m args below meth c G nL MC MS res k) (h : fstep E (.lload_n i, nx, a, b, v, ts) pc L S μ k1 n1 k = some res) (hs : fSt G s nL MC MS L S μ k1 n1 H locs ls) :
    W p l e R s m args below meth c H locs k1 n1 (vx_MQ below (fQ G res) (fXC G res) args s MC MS (fA G)) (F0 m pc ls (S.map (ftv G))) := by
  obtain ⟨hx, hb, hml, hown, hts, hlocks, hst, hG, hP⟩ := C
  obtain ⟨hM, hS, hl, hL, hSk, hk1, hn1⟩ := hs
  simp only [fok, Bool.and_eq_true, Bool.or_eq_true, decide_eq_true_eq] at hk
  obtain ⟨rfl, rfl, rfl⟩ := hk
  obtain ⟨x, hx1, hx2, hx3⟩ := fld h
  obtain ⟨r, rfl⟩ := ftag2 hx2
  refine lv_lload_n hx hb hd rfl (hl.2.2.2 _ _ hx1) ?_
  exact K _ L (_ :: S) μ k1 n1 H locs ls hx3 ⟨hM, hS, hl, hL, fok_cons (hL _ _ hx1) hSk, hk1, hn1⟩
theorem fs_istore {i : Nat} (C : fCx G p l s m args meth c cc own nL) (hd : decode cc pc = .ok (.istore i, ln)) (hk : fok nL ret Z pc ln (.istore i, nx, a, b, v, ts) = true) (K : fGo p l e R s m args below meth c G nL MC MS res k) (h : fstep E (.istore i, nx, a, b, v, ts) pc L S μ k1 n1 k = some res) (hs : fSt G s nL MC MS L S μ k1 n1 H locs ls) :
    W p l e R s m args below meth c H locs k1 n1 (vx_MQ below (fQ G res) (fXC G res) args s MC MS (fA G)) (F0 m pc ls (S.map (ftv G))) := by
  obtain ⟨hx, hb, hml, hown, hts, hlocks, hst, hG, hP⟩ := C
  obtain ⟨hM, hS, hl, hL, hSk, hk1, hn1⟩ := hs
  simp only [fok, Bool.and_eq_true, Bool.or_eq_true, decide_eq_true_eq] at hk
  obtain ⟨rfl, rfl, rfl, ha⟩ := hk
  simp only [fstep] at h
  split at h
  · rename_i x S'
    refine lv_istore hx hb hd hl.has ha rfl (fun ls' hl' => ?_)
    exact K _ (fput1 L _ (some (vI x))) S' μ k1 n1 H locs ls' h ⟨hM, hS, hl.put1 (Or.inl rfl) hl', fput1_ok hL (fun v hv => by cases hv; exact hSk _ List.mem_cons_self), fok_tail hSk, hk1, hn1⟩
  · cases h
theorem fs_istore_n {i : Fin 4} (C : fCx G p l s m args meth c cc own nL) (hd : decode cc pc = .ok (.istore_n i, ln)) (hk : fok nL ret Z pc ln (.istore_n i, nx, a, b, v, ts) = true) (K : fGo p l e R s m args below meth c G nL MC MS res k) (h : fstep E (.istore_n i, nx, a, b, v, ts) pc L S μ k1 n1 k = some res) (hs : fSt G s nL MC MS L S μ k1 n1 H locs ls) :
    W p l e R s m args below meth c H locs k1 n1 (vx_MQ below (fQ G res) (fXC G res) args s MC MS (fA G)) (F0 m pc ls (S.map (ftv G))) := by
  obtain ⟨hx, hb, hml, hown, hts, hlocks, hst, hG, hP⟩ := C
  obtain ⟨hM, hS, hl, hL, hSk, hk1, hn1⟩ := hs
  simp only [fok, Bool.and_eq_true, Bool.or_eq_true, decide_eq_true_eq] at hk
  obtain ⟨rfl, rfl, rfl, ha⟩ := hk
  simp only [fstep] at h
  split at h
  · rename_i x S'
    refine lv_istore_n hx hb hd rfl hl.has ha rfl (fun ls' hl' => ?_)
    exact K _ (fput1 L _ (some (vI x))) S' μ k1 n1 H locs ls' h ⟨hM, hS, hl.put1 (Or.inl rfl) hl', fput1_ok hL (fun v hv => by cases hv; exact hSk _ List.mem_cons_self), fok_tail hSk, hk1, hn1⟩
  · cases h
theorem fs_astore {i : Nat} (C : fCx G p l s m args meth c cc own nL) (hd : decode cc pc = .ok (.astore i, ln)) (hk : fok nL ret Z pc ln (.astore i, nx, a, b, v, ts) = true) (K : fGo p l e R s m args below meth c G nL MC MS res k) (h : fstep E (.astore i, nx, a, b, v, ts) pc L S μ k1 n1 k = some res) (hs : fSt G s nL MC MS L S μ k1 n1 H locs ls) :
    W p l e R s m args below meth c H locs k1 n1 (vx_MQ below (fQ G res) (fXC G res) args s MC MS (fA G)) (F0 m pc ls (S.map (ftv G))) := by
  obtain ⟨hx, hb, hml, hown, hts, hlocks, hst, hG, hP⟩ := C
  obtain ⟨hM, hS, hl, hL, hSk, hk1, hn1⟩ := hs
  simp only [fok, Bool.and_eq_true, Bool.or_eq_true, decide_eq_true_eq] at hk
  obtain ⟨rfl, rfl, rfl, ha⟩ := hk
  simp only [fstep] at h
  split at h
  · rename_i x S'
    refine lv_astore hx hb hd hl.has ha rfl (fun ls' hl' => ?_)
    exact K _ (fput1 L _ (some (.inl x))) S' μ k1 n1 H locs ls' h ⟨hM, hS, hl.put1 (Or.inl rfl) hl', fput1_ok hL (fun v hv => by cases hv; exact hSk _ List.mem_cons_self), fok_tail hSk, hk1, hn1⟩
  · cases h
theorem fs_astore_n {i : Fin 4} (C : fCx G p l s m args meth c cc own nL) (hd : decode cc pc = .ok (.astore_n i, ln)) (hk : fok nL ret Z pc ln (.astore_n i, nx, a, b, v, ts) = true) (K : fGo p l e R s m args below meth c G nL MC MS res k) (h : fstep E (.astore_n i, nx, a, b, v, ts) pc L S μ k1 n1 k = some res) (hs : fSt G s nL MC MS L S μ k1 n1 H locs ls) :
    W p l e R s m args below meth c H locs k1 n1 (vx_MQ below (fQ G res) (fXC G res) args s MC MS (fA G)) (F0 m pc ls (S.map (ftv G))) := by
  obtain ⟨hx, hb, hml, hown, hts, hlocks, hst, hG, hP⟩ := C
  obtain ⟨hM, hS, hl, hL, hSk, hk1, hn1⟩ := hs
  simp only [fok, Bool.and_eq_true, Bool.or_eq_true, decide_eq_true_eq] at hk
  obtain ⟨rfl, rfl, rfl, ha⟩ := hk
  simp only [fstep] at h
  split at h
  · rename_i x S'
    refine lv_astore_n hx hb hd rfl hl.has ha rfl (fun ls' hl' => ?_)
    exact K _ (fput1 L _ (some (.inl x))) S' μ k1 n1 H locs ls' h ⟨hM, hS, hl.put1 (Or.inl rfl) hl', fput1_ok hL (fun v hv => by cases hv; exact hSk _ List.mem_cons_self), fok_tail hSk, hk1, hn1⟩
  · cases h
theorem fs_dstore {i : Nat} (C : fCx G p l s m args meth c cc own nL) (hd : decode cc pc = .ok (.dstore i, ln)) (hk : fok nL ret Z pc ln (.dstore i, nx, a, b, v, ts) = true) (K : fGo p l e R s m args below meth c G nL MC MS res k) (h : fstep E (.dstore i, nx, a, b, v, ts) pc L S μ k1 n1 k = some res) (hs : fSt G s nL MC MS L S μ k1 n1 H locs ls) :
    W p l e R s m args below meth c H locs k1 n1 (vx_MQ below (fQ G res) (fXC G res) args s MC MS (fA G)) (F0 m pc ls (S.map (ftv G))) := by
  obtain ⟨hx, hb, hml, hown, hts, hlocks, hst, hG, hP⟩ := C
  obtain ⟨hM, hS, hl, hL, hSk, hk1, hn1⟩ := hs
  simp only [fok, Bool.and_eq_true, Bool.or_eq_true, decide_eq_true_eq] at hk
  obtain ⟨rfl, rfl, rfl, ha⟩ := hk
  simp only [fstep] at h
  split at h
  · rename_i x S'
    refine lv_dstore hx hb hd hl.has ha rfl (fun ls' hl' => ?_)
    exact K _ (fput2 L _ (vD x)) S' μ k1 n1 H locs ls' h ⟨hM, hS, hl.put2 hl', fput2_ok hL trivial, fok_tail hSk, hk1, hn1⟩
  · cases h
theorem fs_iinc {i : Nat} {n : Int} (C : fCx G p l s m args meth c cc own nL) (hd : decode cc pc = .ok (.iinc i n, ln)) (hk : fok nL ret Z pc ln (.iinc i n, nx, a, b, v, ts) = true) (K : fGo p l e R s m args below meth c G nL MC MS res k) (h : fstep E (.iinc i n, nx, a, b, v, ts) pc L S μ k1 n1 k = some res) (hs : fSt G s nL MC MS L S μ k1 n1 H locs ls) :
    W p l e R s m args below meth c H locs k1 n1 (vx_MQ below (fQ G res) (fXC G res) args s MC MS (fA G)) (F0 m pc ls (S.map (ftv G))) := by
  obtain ⟨hx, hb, hml, hown, hts, hlocks, hst, hG, hP⟩ := C
  obtain ⟨hM, hS, hl, hL, hSk, hk1, hn1⟩ := hs
  simp only [fok, Bool.and_eq_true, Bool.or_eq_true, decide_eq_true_eq] at hk
  obtain ⟨rfl, rfl, rfl, hv, ha⟩ := hk
  simp only [fstep] at h
  split at h
  · rename_i x hx1
    obtain ⟨j, hj⟩ := List.getElem?_of_mem (flv_mem.mpr ⟨vI x, hx1, rfl⟩ : (a, ftv G (vI x)) ∈ flv G L)
    refine lv_iinc (v := x + v) hx hb hd hl.has (k := j) hj (by rw [hv]) ha rfl (fun ls' hl' => ?_)
    exact K _ (fput1 L _ (some (vI (x + v)))) S μ k1 n1 H locs ls' h ⟨hM, hS, hl.put1 (Or.inl rfl) hl', fput1_ok hL (fun v hv => by cases hv; trivial), hSk, hk1, hn1⟩
  · cases h
theorem fs_iadd  (C : fCx G p l s m args meth c cc own nL) (hd : decode cc pc = .ok (.iadd, ln)) (hk : fok nL ret Z pc ln (.iadd, nx, a, b, v, ts) = true) (K : fGo p l e R s m args below meth c G nL MC MS res k) (h : fstep E (.iadd, nx, a, b, v, ts) pc L S μ k1 n1 k = some res) (hs : fSt G s nL MC MS L S μ k1 n1 H locs ls) :
    W p l e R s m args below meth c H locs k1 n1 (vx_MQ below (fQ G res) (fXC G res) args s MC MS (fA G)) (F0 m pc ls (S.map (ftv G))) := by
  obtain ⟨hx, hb, hml, hown, hts, hlocks, hst, hG, hP⟩ := C
  obtain ⟨hM, hS, hl, hL, hSk, hk1, hn1⟩ := hs
  simp only [fok, Bool.and_eq_true, Bool.or_eq_true, decide_eq_true_eq] at hk
  obtain ⟨rfl, rfl⟩ := hk
  simp only [fstep] at h
  split at h
  · rename_i y x S'
    refine lv_iadd hx hb hd ?_
    exact K _ L (vI (x + y) :: S') μ k1 n1 H locs ls h ⟨hM, hS, hl, hL, fok_cons trivial (fok_tail (fok_tail hSk)), hk1, hn1⟩
  · cases h
theorem fs_isub  (C : fCx G p l s m args meth c cc own nL) (hd : decode cc pc = .ok (.isub, ln)) (hk : fok nL ret Z pc ln (.isub, nx, a, b, v, ts) = true) (K : fGo p l e R s m args below meth c G nL MC MS res k) (h : fstep E (.isub, nx, a, b, v, ts) pc L S μ k1 n1 k = some res) (hs : fSt G s nL MC MS L S μ k1 n1 H locs ls) :
    W p l e R s m args below meth c H locs k1 n1 (vx_MQ below (fQ G res) (fXC G res) args s MC MS (fA G)) (F0 m pc ls (S.map (ftv G))) := by
  obtain ⟨hx, hb, hml, hown, hts, hlocks, hst, hG, hP⟩ := C
  obtain ⟨hM, hS, hl, hL, hSk, hk1, hn1⟩ := hs
  simp only [fok, Bool.and_eq_true, Bool.or_eq_true, decide_eq_true_eq] at hk
  obtain ⟨rfl, rfl⟩ := hk
  simp only [fstep] at h
  split at h
  · rename_i y x S'
    refine lv_isub hx hb hd ?_
    exact K _ L (vI (x - y) :: S') μ k1 n1 H locs ls h ⟨hM, hS, hl, hL, fok_cons trivial (fok_tail (fok_tail hSk)), hk1, hn1⟩
  · cases h
theorem fs_imul  (C : fCx G p l s m args meth c cc own nL) (hd : decode cc pc = .ok (.imul, ln)) (hk : fok nL ret Z pc ln (.imul, nx, a, b, v, ts) = true) (K : fGo p l e R s m args below meth c G nL MC MS res k) (h : fstep E (.imul, nx, a, b, v, ts) pc L S μ k1 n1 k = some res) (hs : fSt G s nL MC MS L S μ k1 n1 H locs ls) :
    W p l e R s m args below meth c H locs k1 n1 (vx_MQ below (fQ G res) (fXC G res) args s MC MS (fA G)) (F0 m pc ls (S.map (ftv G))) := by
  obtain ⟨hx, hb, hml, hown, hts, hlocks, hst, hG, hP⟩ := C
  obtain ⟨hM, hS, hl, hL, hSk, hk1, hn1⟩ := hs
  simp only [fok, Bool.and_eq_true, Bool.or_eq_true, decide_eq_true_eq] at hk
  obtain ⟨rfl, rfl⟩ := hk
  simp only [fstep] at h
  split at h
  · rename_i y x S'
    refine lv_imul hx hb hd ?_
    exact K _ L (vI (x * y) :: S') μ k1 n1 H locs ls h ⟨hM, hS, hl, hL, fok_cons trivial (fok_tail (fok_tail hSk)), hk1, hn1⟩
  · cases h
theorem fs_iand  (C : fCx G p l s m args meth c cc own nL) (hd : decode cc pc = .ok (.iand, ln)) (hk : fok nL ret Z pc ln (.iand, nx, a, b, v, ts) = true) (K : fGo p l e R s m args below meth c G nL MC MS res k) (h : fstep E (.iand, nx, a, b, v, ts) pc L S μ k1 n1 k = some res) (hs : fSt G s nL MC MS L S μ k1 n1 H locs ls) :
    W p l e R s m args below meth c H locs k1 n1 (vx_MQ below (fQ G res) (fXC G res) args s MC MS (fA G)) (F0 m pc ls (S.map (ftv G))) := by
  obtain ⟨hx, hb, hml, hown, hts, hlocks, hst, hG, hP⟩ := C
  obtain ⟨hM, hS, hl, hL, hSk, hk1, hn1⟩ := hs
  simp only [fok, Bool.and_eq_true, Bool.or_eq_true, decide_eq_true_eq] at hk
  obtain ⟨rfl, rfl⟩ := hk
  simp only [fstep] at h
  split at h
  · rename_i y x S'
    refine lv_iand hx hb hd ?_
    exact K _ L (vI (x &&& y) :: S') μ k1 n1 H locs ls h ⟨hM, hS, hl, hL, fok_cons trivial (fok_tail (fok_tail hSk)), hk1, hn1⟩
  · cases h
theorem fs_ior  (C : fCx G p l s m args meth c cc own nL) (hd : decode cc pc = .ok (.ior, ln)) (hk : fok nL ret Z pc ln (.ior, nx, a, b, v, ts) = true) (K : fGo p l e R s m args below meth c G nL MC MS res k) (h : fstep E (.ior, nx, a, b, v, ts) pc L S μ k1 n1 k = some res) (hs : fSt G s nL MC MS L S μ k1 n1 H locs ls) :
    W p l e R s m args below meth c H locs k1 n1 (vx_MQ below (fQ G res) (fXC G res) args s MC MS (fA G)) (F0 m pc ls (S.map (ftv G))) := by
  obtain ⟨hx, hb, hml, hown, hts, hlocks, hst, hG, hP⟩ := C
  obtain ⟨hM, hS, hl, hL, hSk, hk1, hn1⟩ := hs
  simp only [fok, Bool.and_eq_true, Bool.or_eq_true, decide_eq_true_eq] at hk
  obtain ⟨rfl, rfl⟩ := hk
  simp only [fstep] at h
  split at h
  · rename_i y x S'
    refine lv_ior hx hb hd ?_
    exact K _ L (vI (x ||| y) :: S') μ k1 n1 H locs ls h ⟨hM, hS, hl, hL, fok_cons trivial (fok_tail (fok_tail hSk)), hk1, hn1⟩
  · cases h
theorem fs_ixor  (C : fCx G p l s m args meth c cc own nL) (hd : decode cc pc = .ok (.ixor, ln)) (hk : fok nL ret Z pc ln (.ixor, nx, a, b, v, ts) = true) (K : fGo p l e R s m args below meth c G nL MC MS res k) (h : fstep E (.ixor, nx, a, b, v, ts) pc L S μ k1 n1 k = some res) (hs : fSt G s nL MC MS L S μ k1 n1 H locs ls) :
    W p l e R s m args below meth c H locs k1 n1 (vx_MQ below (fQ G res) (fXC G res) args s MC MS (fA G)) (F0 m pc ls (S.map (ftv G))) := by
  obtain ⟨hx, hb, hml, hown, hts, hlocks, hst, hG, hP⟩ := C
  obtain ⟨hM, hS, hl, hL, hSk, hk1, hn1⟩ := hs
  simp only [fok, Bool.and_eq_true, Bool.or_eq_true, decide_eq_true_eq] at hk
  obtain ⟨rfl, rfl⟩ := hk
  simp only [fstep] at h
  split at h
  · rename_i y x S'
    refine lv_ixor hx hb hd ?_
    exact K _ L (vI (x ^^^ y) :: S') μ k1 n1 H locs ls h ⟨hM, hS, hl, hL, fok_cons trivial (fok_tail (fok_tail hSk)), hk1, hn1⟩
  · cases h
theorem fs_ishl  (C : fCx G p l s m args meth c cc own nL) (hd : decode cc pc = .ok (.ishl, ln)) (hk : fok nL ret Z pc ln (.ishl, nx, a, b, v, ts) = true) (K : fGo p l e R s m args below meth c G nL MC MS res k) (h : fstep E (.ishl, nx, a, b, v, ts) pc L S μ k1 n1 k = some res) (hs : fSt G s nL MC MS L S μ k1 n1 H locs ls) :
    W p l e R s m args below meth c H locs k1 n1 (vx_MQ below (fQ G res) (fXC G res) args s MC MS (fA G)) (F0 m pc ls (S.map (ftv G))) := by
  obtain ⟨hx, hb, hml, hown, hts, hlocks, hst, hG, hP⟩ := C
  obtain ⟨hM, hS, hl, hL, hSk, hk1, hn1⟩ := hs
  simp only [fok, Bool.and_eq_true, Bool.or_eq_true, decide_eq_true_eq] at hk
  obtain ⟨rfl, rfl⟩ := hk
  simp only [fstep] at h
  split at h
  · rename_i y x S'
    refine lv_ishl hx hb hd ?_
    exact K _ L (vI (x <<< (y &&& 31)) :: S') μ k1 n1 H locs ls h ⟨hM, hS, hl, hL, fok_cons trivial (fok_tail (fok_tail hSk)), hk1, hn1⟩
  · cases h
theorem fs_ishr  (C : fCx G p l s m args meth c cc own nL) (hd : decode cc pc = .ok (.ishr, ln)) (hk : fok nL ret Z pc ln (.ishr, nx, a, b, v, ts) = true) (K : fGo p l e R s m args below meth c G nL MC MS res k) (h : fstep E (.ishr, nx, a, b, v, ts) pc L S μ k1 n1 k = some res) (hs : fSt G s nL MC MS L S μ k1 n1 H locs ls) :
    W p l e R s m args below meth c H locs k1 n1 (vx_MQ below (fQ G res) (fXC G res) args s MC MS (fA G)) (F0 m pc ls (S.map (ftv G))) := by
  obtain ⟨hx, hb, hml, hown, hts, hlocks, hst, hG, hP⟩ := C
  obtain ⟨hM, hS, hl, hL, hSk, hk1, hn1⟩ := hs
  simp only [fok, Bool.and_eq_true, Bool.or_eq_true, decide_eq_true_eq] at hk
  obtain ⟨rfl, rfl⟩ := hk
  simp only [fstep] at h
  split at h
  · rename_i y x S'
    refine lv_ishr hx hb hd ?_
    exact K _ L (vI (x >>> (y &&& 31)) :: S') μ k1 n1 H locs ls h ⟨hM, hS, hl, hL, fok_cons trivial (fok_tail (fok_tail hSk)), hk1, hn1⟩
  · cases h
theorem fs_iushr  (C : fCx G p l s m args meth c cc own nL) (hd : decode cc pc = .ok (.iushr, ln)) (hk : fok nL ret Z pc ln (.iushr, nx, a, b, v, ts) = true) (K : fGo p l e R s m args below meth c G nL MC MS res k) (h : fstep E (.iushr, nx, a, b, v, ts) pc L S μ k1 n1 k = some res) (hs : fSt G s nL MC MS L S μ k1 n1 H locs ls) :
    W p l e R s m args below meth c H locs k1 n1 (vx_MQ below (fQ G res) (fXC G res) args s MC MS (fA G)) (F0 m pc ls (S.map (ftv G))) := by
  obtain ⟨hx, hb, hml, hown, hts, hlocks, hst, hG, hP⟩ := C
  obtain ⟨hM, hS, hl, hL, hSk, hk1, hn1⟩ := hs
  simp only [fok, Bool.and_eq_true, Bool.or_eq_true, decide_eq_true_eq] at hk
  obtain ⟨rfl, rfl⟩ := hk
  simp only [fstep] at h
  split at h
  · rename_i y x S'
    refine lv_iushr hx hb hd rfl ?_
    exact K _ L (vI (x.toUInt32 >>> (y.toUInt32 &&& Int32.toUInt32 31)).toInt32 :: S') μ k1 n1 H locs ls h ⟨hM, hS, hl, hL, fok_cons trivial (fok_tail (fok_tail hSk)), hk1, hn1⟩
  · cases h
theorem fs_ladd  (C : fCx G p l s m args meth c cc own nL) (hd : decode cc pc = .ok (.ladd, ln)) (hk : fok nL ret Z pc ln (.ladd, nx, a, b, v, ts) = true) (K : fGo p l e R s m args below meth c G nL MC MS res k) (h : fstep E (.ladd, nx, a, b, v, ts) pc L S μ k1 n1 k = some res) (hs : fSt G s nL MC MS L S μ k1 n1 H locs ls) :
    W p l e R s m args below meth c H locs k1 n1 (vx_MQ below (fQ G res) (fXC G res) args s MC MS (fA G)) (F0 m pc ls (S.map (ftv G))) := by
  obtain ⟨hx, hb, hml, hown, hts, hlocks, hst, hG, hP⟩ := C
  obtain ⟨hM, hS, hl, hL, hSk, hk1, hn1⟩ := hs
  simp only [fok, Bool.and_eq_true, Bool.or_eq_true, decide_eq_true_eq] at hk
  obtain ⟨rfl, rfl⟩ := hk
  simp only [fstep] at h
  split at h
  · rename_i y x S'
    refine lv_ladd hx hb hd ?_
    exact K _ L (vL (x + y) :: S') μ k1 n1 H locs ls h ⟨hM, hS, hl, hL, fok_cons trivial (fok_tail (fok_tail hSk)), hk1, hn1⟩
  · cases h
theorem fs_lcmp  (C : fCx G p l s m args meth c cc own nL) (hd : decode cc pc = .ok (.lcmp, ln)) (hk : fok nL ret Z pc ln (.lcmp, nx, a, b, v, ts) = true) (K : fGo p l e R s m args below meth c G nL MC MS res k) (h : fstep E (.lcmp, nx, a, b, v, ts) pc L S μ k1 n1 k = some res) (hs : fSt G s nL MC MS L S μ k1 n1 H locs ls) :
    W p l e R s m args below meth c H locs k1 n1 (vx_MQ below (fQ G res) (fXC G res) args s MC MS (fA G)) (F0 m pc ls (S.map (ftv G))) := by
  obtain ⟨hx, hb, hml, hown, hts, hlocks, hst, hG, hP⟩ := C
  obtain ⟨hM, hS, hl, hL, hSk, hk1, hn1⟩ := hs
  simp only [fok, Bool.and_eq_true, Bool.or_eq_true, decide_eq_true_eq] at hk
  obtain ⟨rfl, rfl⟩ := hk
  simp only [fstep] at h
  split at h
  · rename_i y x S'
    refine W.lcmp hx hb hd ?_
    exact K _ L (vI (lg_cmp x y) :: S') μ k1 n1 H locs ls h ⟨hM, hS, hl, hL, fok_cons trivial (fok_tail (fok_tail hSk)), hk1, hn1⟩
  · cases h
theorem fs_idiv  (C : fCx G p l s m args meth c cc own nL) (hd : decode cc pc = .ok (.idiv, ln)) (hk : fok nL ret Z pc ln (.idiv, nx, a, b, v, ts) = true) (K : fGo p l e R s m args below meth c G nL MC MS res k) (h : fstep E (.idiv, nx, a, b, v, ts) pc L S μ k1 n1 k = some res) (hs : fSt G s nL MC MS L S μ k1 n1 H locs ls) :
    W p l e R s m args below meth c H locs k1 n1 (vx_MQ below (fQ G res) (fXC G res) args s MC MS (fA G)) (F0 m pc ls (S.map (ftv G))) := by
  obtain ⟨hx, hb, hml, hown, hts, hlocks, hst, hG, hP⟩ := C
  obtain ⟨hM, hS, hl, hL, hSk, hk1, hn1⟩ := hs
  simp only [fok, Bool.and_eq_true, Bool.or_eq_true, decide_eq_true_eq] at hk
  obtain ⟨rfl, rfl⟩ := hk
  simp only [fstep] at h
  split at h
  · rename_i y x S'
    split at h
    · cases h
    · rename_i hg
      refine lv_idiv hx hb hd hg ?_
      exact K _ L (vI (x / y) :: S') μ k1 n1 H locs ls h ⟨hM, hS, hl, hL, fok_cons trivial (fok_tail (fok_tail hSk)), hk1, hn1⟩
  · cases h
theorem fs_irem  (C : fCx G p l s m args meth c cc own nL) (hd : decode cc pc = .ok (.irem, ln)) (hk : fok nL ret Z pc ln (.irem, nx, a, b, v, ts) = true) (K : fGo p l e R s m args below meth c G nL MC MS res k) (h : fstep E (.irem, nx, a, b, v, ts) pc L S μ k1 n1 k = some res) (hs : fSt G s nL MC MS L S μ k1 n1 H locs ls) :
    W p l e R s m args below meth c H locs k1 n1 (vx_MQ below (fQ G res) (fXC G res) args s MC MS (fA G)) (F0 m pc ls (S.map (ftv G))) := by
  obtain ⟨hx, hb, hml, hown, hts, hlocks, hst, hG, hP⟩ := C
  obtain ⟨hM, hS, hl, hL, hSk, hk1, hn1⟩ := hs
  simp only [fok, Bool.and_eq_true, Bool.or_eq_true, decide_eq_true_eq] at hk
  obtain ⟨rfl, rfl⟩ := hk
  simp only [fstep] at h
  split at h
  · rename_i y x S'
    split at h
    · cases h
    · rename_i hg
      refine lv_irem hx hb hd hg ?_
      exact K _ L (vI (x - x / y * y) :: S') μ k1 n1 H locs ls h ⟨hM, hS, hl, hL, fok_cons trivial (fok_tail (fok_tail hSk)), hk1, hn1⟩
  · cases h
theorem fs_ddiv  (C : fCx G p l s m args meth c cc own nL) (hd : decode cc pc = .ok (.ddiv, ln)) (hk : fok nL ret Z pc ln (.ddiv, nx, a, b, v, ts) = true) (K : fGo p l e R s m args below meth c G nL MC MS res k) (h : fstep E (.ddiv, nx, a, b, v, ts) pc L S μ k1 n1 k = some res) (hs : fSt G s nL MC MS L S μ k1 n1 H locs ls) :
    W p l e R s m args below meth c H locs k1 n1 (vx_MQ below (fQ G res) (fXC G res) args s MC MS (fA G)) (F0 m pc ls (S.map (ftv G))) := by
  obtain ⟨hx, hb, hml, hown, hts, hlocks, hst, hG, hP⟩ := C
  obtain ⟨hM, hS, hl, hL, hSk, hk1, hn1⟩ := hs
  simp only [fok, Bool.and_eq_true, Bool.or_eq_true, decide_eq_true_eq] at hk
  obtain ⟨rfl, rfl⟩ := hk
  simp only [fstep] at h
  split at h
  · rename_i y x S'
    split at h
    · rename_i hg
      refine lv_ddiv hx hb hd hg ?_
      exact K _ L (vD (FP.ddiv x y) :: S') μ k1 n1 H locs ls h ⟨hM, hS, hl, hL, fok_cons trivial (fok_tail (fok_tail hSk)), hk1, hn1⟩
    · cases h
  · cases h
theorem fs_dcmp {op : CmpOp} (C : fCx G p l s m args meth c cc own nL) (hd : decode cc pc = .ok (.dcmp op, ln)) (hk : fok nL ret Z pc ln (.dcmp op, nx, a, b, v, ts) = true) (K : fGo p l e R s m args below meth c G nL MC MS res k) (h : fstep E (.dcmp op, nx, a, b, v, ts) pc L S μ k1 n1 k = some res) (hs : fSt G s nL MC MS L S μ k1 n1 H locs ls) :
    W p l e R s m args below meth c H locs k1 n1 (vx_MQ below (fQ G res) (fXC G res) args s MC MS (fA G)) (F0 m pc ls (S.map (ftv G))) := by
  obtain ⟨hx, hb, hml, hown, hts, hlocks, hst, hG, hP⟩ := C
  obtain ⟨hM, hS, hl, hL, hSk, hk1, hn1⟩ := hs
  simp only [fok, Bool.and_eq_true, Bool.or_eq_true, decide_eq_true_eq] at hk
  obtain ⟨rfl, rfl⟩ := hk
  simp only [fstep] at h
  split at h
  · rename_i y x S'
    refine lv_dcmp hx hb hd ?_
    exact K _ L (vI (Op.cmpValue (FP.dcmp x y) op) :: S') μ k1 n1 H locs ls h ⟨hM, hS, hl, hL, fok_cons trivial (fok_tail (fok_tail hSk)), hk1, hn1⟩
  · cases h
theorem fs_i2l  (C : fCx G p l s m args meth c cc own nL) (hd : decode cc pc = .ok (.i2l, ln)) (hk : fok nL ret Z pc ln (.i2l, nx, a, b, v, ts) = true) (K : fGo p l e R s m args below meth c G nL MC MS res k) (h : fstep E (.i2l, nx, a, b, v, ts) pc L S μ k1 n1 k = some res) (hs : fSt G s nL MC MS L S μ k1 n1 H locs ls) :
    W p l e R s m args below meth c H locs k1 n1 (vx_MQ below (fQ G res) (fXC G res) args s MC MS (fA G)) (F0 m pc ls (S.map (ftv G))) := by
  obtain ⟨hx, hb, hml, hown, hts, hlocks, hst, hG, hP⟩ := C
  obtain ⟨hM, hS, hl, hL, hSk, hk1, hn1⟩ := hs
  simp only [fok, Bool.and_eq_true, Bool.or_eq_true, decide_eq_true_eq] at hk
  obtain ⟨rfl, rfl⟩ := hk
  simp only [fstep] at h
  split at h
  · rename_i x S'
    refine lv_i2l (v := x.toInt64) hx hb hd rfl ?_
    exact K _ L (vL x.toInt64 :: S') μ k1 n1 H locs ls h ⟨hM, hS, hl, hL, fok_cons trivial (fok_tail hSk), hk1, hn1⟩
  · cases h
theorem fs_l2i  (C : fCx G p l s m args meth c cc own nL) (hd : decode cc pc = .ok (.l2i, ln)) (hk : fok nL ret Z pc ln (.l2i, nx, a, b, v, ts) = true) (K : fGo p l e R s m args below meth c G nL MC MS res k) (h : fstep E (.l2i, nx, a, b, v, ts) pc L S μ k1 n1 k = some res) (hs : fSt G s nL MC MS L S μ k1 n1 H locs ls) :
    W p l e R s m args below meth c H locs k1 n1 (vx_MQ below (fQ G res) (fXC G res) args s MC MS (fA G)) (F0 m pc ls (S.map (ftv G))) := by
  obtain ⟨hx, hb, hml, hown, hts, hlocks, hst, hG, hP⟩ := C
  obtain ⟨hM, hS, hl, hL, hSk, hk1, hn1⟩ := hs
  simp only [fok, Bool.and_eq_true, Bool.or_eq_true, decide_eq_true_eq] at hk
  obtain ⟨rfl, rfl⟩ := hk
  simp only [fstep] at h
  split at h
  · rename_i x S'
    refine lv_l2i (v := x.toInt32) hx hb hd rfl ?_
    exact K _ L (vI x.toInt32 :: S') μ k1 n1 H locs ls h ⟨hM, hS, hl, hL, fok_cons trivial (fok_tail hSk), hk1, hn1⟩
  · cases h
theorem fs_i2c  (C : fCx G p l s m args meth c cc own nL) (hd : decode cc pc = .ok (.i2c, ln)) (hk : fok nL ret Z pc ln (.i2c, nx, a, b, v, ts) = true) (K : fGo p l e R s m args below meth c G nL MC MS res k) (h : fstep E (.i2c, nx, a, b, v, ts) pc L S μ k1 n1 k = some res) (hs : fSt G s nL MC MS L S μ k1 n1 H locs ls) :
    W p l e R s m args below meth c H locs k1 n1 (vx_MQ below (fQ G res) (fXC G res) args s MC MS (fA G)) (F0 m pc ls (S.map (ftv G))) := by
  obtain ⟨hx, hb, hml, hown, hts, hlocks, hst, hG, hP⟩ := C
  obtain ⟨hM, hS, hl, hL, hSk, hk1, hn1⟩ := hs
  simp only [fok, Bool.and_eq_true, Bool.or_eq_true, decide_eq_true_eq] at hk
  obtain ⟨rfl, rfl⟩ := hk
  simp only [fstep] at h
  split at h
  · rename_i x S'
    refine lv_i2c hx hb hd rfl ?_
    exact K _ L (vI (x.toUInt32 % 65536).toInt32 :: S') μ k1 n1 H locs ls h ⟨hM, hS, hl, hL, fok_cons trivial (fok_tail hSk), hk1, hn1⟩
  · cases h
theorem fs_i2d  (C : fCx G p l s m args meth c cc own nL) (hd : decode cc pc = .ok (.i2d, ln)) (hk : fok nL ret Z pc ln (.i2d, nx, a, b, v, ts) = true) (K : fGo p l e R s m args below meth c G nL MC MS res k) (h : fstep E (.i2d, nx, a, b, v, ts) pc L S μ k1 n1 k = some res) (hs : fSt G s nL MC MS L S μ k1 n1 H locs ls) :
    W p l e R s m args below meth c H locs k1 n1 (vx_MQ below (fQ G res) (fXC G res) args s MC MS (fA G)) (F0 m pc ls (S.map (ftv G))) := by
  obtain ⟨hx, hb, hml, hown, hts, hlocks, hst, hG, hP⟩ := C
  obtain ⟨hM, hS, hl, hL, hSk, hk1, hn1⟩ := hs
  simp only [fok, Bool.and_eq_true, Bool.or_eq_true, decide_eq_true_eq] at hk
  obtain ⟨rfl, rfl⟩ := hk
  simp only [fstep] at h
  split at h
  · rename_i x S'
    refine lv_i2d hx hb hd ?_
    exact K _ L (vD (FP.i2d x) :: S') μ k1 n1 H locs ls h ⟨hM, hS, hl, hL, fok_cons trivial (fok_tail hSk), hk1, hn1⟩
  · cases h
theorem fs_dup  (C : fCx G p l s m args meth c cc own nL) (hd : decode cc pc = .ok (.dup, ln)) (hk : fok nL ret Z pc ln (.dup, nx, a, b, v, ts) = true) (K : fGo p l e R s m args below meth c G nL MC MS res k) (h : fstep E (.dup, nx, a, b, v, ts) pc L S μ k1 n1 k = some res) (hs : fSt G s nL MC MS L S μ k1 n1 H locs ls) :
    W p l e R s m args below meth c H locs k1 n1 (vx_MQ below (fQ G res) (fXC G res) args s MC MS (fA G)) (F0 m pc ls (S.map (ftv G))) := by
  obtain ⟨hx, hb, hml, hown, hts, hlocks, hst, hG, hP⟩ := C
  obtain ⟨hM, hS, hl, hL, hSk, hk1, hn1⟩ := hs
  simp only [fok, Bool.and_eq_true, Bool.or_eq_true, decide_eq_true_eq] at hk
  obtain ⟨rfl, rfl⟩ := hk
  simp only [fstep] at h
  split at h
  · rename_i x S'
    cases hb0 : Nat.ble (ftag x) 1 <;> rw [hb0] at h
    · cases h
    refine lv_dup hx hb hd (ftag01 hb0) ?_
    exact K _ L (x :: x :: S') μ k1 n1 H locs ls h ⟨hM, hS, hl, hL, fok_cons (hSk _ List.mem_cons_self) hSk, hk1, hn1⟩
  · cases h
theorem fs_pop  (C : fCx G p l s m args meth c cc own nL) (hd : decode cc pc = .ok (.pop, ln)) (hk : fok nL ret Z pc ln (.pop, nx, a, b, v, ts) = true) (K : fGo p l e R s m args below meth c G nL MC MS res k) (h : fstep E (.pop, nx, a, b, v, ts) pc L S μ k1 n1 k = some res) (hs : fSt G s nL MC MS L S μ k1 n1 H locs ls) :
    W p l e R s m args below meth c H locs k1 n1 (vx_MQ below (fQ G res) (fXC G res) args s MC MS (fA G)) (F0 m pc ls (S.map (ftv G))) := by
  obtain ⟨hx, hb, hml, hown, hts, hlocks, hst, hG, hP⟩ := C
  obtain ⟨hM, hS, hl, hL, hSk, hk1, hn1⟩ := hs
  simp only [fok, Bool.and_eq_true, Bool.or_eq_true, decide_eq_true_eq] at hk
  obtain ⟨rfl, rfl⟩ := hk
  simp only [fstep] at h
  split at h
  · rename_i x S'
    cases hb0 : Nat.ble (ftag x) 1 <;> rw [hb0] at h
    · cases h
    refine lv_pop hx hb hd (ftag01 hb0) ?_
    exact K _ L S' μ k1 n1 H locs ls h ⟨hM, hS, hl, hL, fok_tail hSk, hk1, hn1⟩
  · cases h
theorem fs_dup2  (C : fCx G p l s m args meth c cc own nL) (hd : decode cc pc = .ok (.dup2, ln)) (hk : fok nL ret Z pc ln (.dup2, nx, a, b, v, ts) = true) (K : fGo p l e R s m args below meth c G nL MC MS res k) (h : fstep E (.dup2, nx, a, b, v, ts) pc L S μ k1 n1 k = some res) (hs : fSt G s nL MC MS L S μ k1 n1 H locs ls) :
    W p l e R s m args below meth c H locs k1 n1 (vx_MQ below (fQ G res) (fXC G res) args s MC MS (fA G)) (F0 m pc ls (S.map (ftv G))) := by
  obtain ⟨hx, hb, hml, hown, hts, hlocks, hst, hG, hP⟩ := C
  obtain ⟨hM, hS, hl, hL, hSk, hk1, hn1⟩ := hs
  simp only [fok, Bool.and_eq_true, Bool.or_eq_true, decide_eq_true_eq] at hk
  obtain ⟨rfl, rfl⟩ := hk
  simp only [fstep] at h
  split at h
  · rename_i x y S'
    cases hb0 : Nat.ble (ftag x) 1 <;> cases hb1 : Nat.ble (ftag y) 1 <;> rw [hb0, hb1] at h
    · cases h
    · cases h
    · cases h
    refine lv_dup2_11 hx hb hd (ftag01 hb0) (ftag01 hb1) ?_
    exact K _ L (x :: y :: x :: y :: S') μ k1 n1 H locs ls h ⟨hM, hS, hl, hL, fok_cons (hSk _ List.mem_cons_self) (fok_cons (hSk _ (List.mem_cons_of_mem _ List.mem_cons_self)) hSk), hk1, hn1⟩
  · cases h
theorem fcmp_t {q : ClassFile.Cond} {x y : Int32} {A B : Option fR} {P : Prop} (h : fcmp q x y A B = some res) (hA : A = some res → P) (hB : B = some res → P) : P := by
  unfold fcmp at h
  split at h <;> (split at h <;> first | exact hA h | exact hB h)
theorem fs_icmp {q : ClassFile.Cond} {off : Int} (C : fCx G p l s m args meth c cc own nL) (hd : decode cc pc = .ok (.if_icmp q off, ln)) (hk : fok nL ret Z pc ln (.if_icmp q off, nx, a, b, v, ts) = true) (K : fGo p l e R s m args below meth c G nL MC MS res k) (h : fstep E (.if_icmp q off, nx, a, b, v, ts) pc L S μ k1 n1 k = some res) (hs : fSt G s nL MC MS L S μ k1 n1 H locs ls) :
    W p l e R s m args below meth c H locs k1 n1 (vx_MQ below (fQ G res) (fXC G res) args s MC MS (fA G)) (F0 m pc ls (S.map (ftv G))) := by
  obtain ⟨hx, hb, hml, hown, hts, hlocks, hst, hG, hP⟩ := C
  obtain ⟨hM, hS, hl, hL, hSk, hk1, hn1⟩ := hs
  simp only [fok, Bool.and_eq_true, Bool.or_eq_true, decide_eq_true_eq] at hk
  obtain ⟨rfl, rfl, ho⟩ := hk
  simp only [fstep] at h
  split at h
  · rename_i y x S'
    have hst' : ∀ pc', k pc' L S' μ k1 n1 = some res → W p l e R s m args below meth c H locs k1 n1 (vx_MQ below (fQ G res) (fXC G res) args s MC MS (fA G)) (F0 m pc' ls (S'.map (ftv G))) := fun pc' hh => K pc' L S' μ k1 n1 H locs ls hh ⟨hM, hS, hl, hL, fok_tail (fok_tail hSk), hk1, hn1⟩
    cases q <;> simp only [fcmp] at h
    · refine lv_icmp_eq (tgt := a) hx hb hd ho (fun hc => ?_) (fun hc => ?_)
      · rw [if_pos hc] at h
        exact hst' _ h
      · rw [if_neg hc] at h
        exact hst' _ h
    · refine lv_icmp_ne (tgt := a) hx hb hd ho (fun hc => ?_) (fun hc => ?_)
      · rw [if_neg hc] at h
        exact hst' _ h
      · rw [if_pos hc] at h
        exact hst' _ h
    · refine lv_icmp_lt (tgt := a) hx hb hd ho (fun hc => ?_) (fun hc => ?_)
      · rw [if_pos hc] at h
        exact hst' _ h
      · rw [if_neg hc] at h
        exact hst' _ h
    · refine lv_icmp_ge (tgt := a) hx hb hd ho (fun hc => ?_) (fun hc => ?_)
      · rw [if_pos hc] at h
        exact hst' _ h
      · rw [if_neg hc] at h
        exact hst' _ h
    · refine lv_icmp_gt (tgt := a) hx hb hd ho (fun hc => ?_) (fun hc => ?_)
      · rw [if_pos hc] at h
        exact hst' _ h
      · rw [if_neg hc] at h
        exact hst' _ h
    · refine lv_icmp_le (tgt := a) hx hb hd ho (fun hc => ?_) (fun hc => ?_)
      · rw [if_pos hc] at h
        exact hst' _ h
      · rw [if_neg hc] at h
        exact hst' _ h
  · cases h
theorem fs_ifc {q : ClassFile.Cond} {off : Int} (C : fCx G p l s m args meth c cc own nL) (hd : decode cc pc = .ok (.ifCond q off, ln)) (hk : fok nL ret Z pc ln (.ifCond q off, nx, a, b, v, ts) = true) (K : fGo p l e R s m args below meth c G nL MC MS res k) (h : fstep E (.ifCond q off, nx, a, b, v, ts) pc L S μ k1 n1 k = some res) (hs : fSt G s nL MC MS L S μ k1 n1 H locs ls) :
    W p l e R s m args below meth c H locs k1 n1 (vx_MQ below (fQ G res) (fXC G res) args s MC MS (fA G)) (F0 m pc ls (S.map (ftv G))) := by
  obtain ⟨hx, hb, hml, hown, hts, hlocks, hst, hG, hP⟩ := C
  obtain ⟨hM, hS, hl, hL, hSk, hk1, hn1⟩ := hs
  simp only [fok, Bool.and_eq_true, Bool.or_eq_true, decide_eq_true_eq] at hk
  obtain ⟨rfl, rfl, ho⟩ := hk
  simp only [fstep] at h
  split at h
  · rename_i x S'
    have hst' : ∀ pc', k pc' L S' μ k1 n1 = some res → W p l e R s m args below meth c H locs k1 n1 (vx_MQ below (fQ G res) (fXC G res) args s MC MS (fA G)) (F0 m pc' ls (S'.map (ftv G))) := fun pc' hh => K pc' L S' μ k1 n1 H locs ls hh ⟨hM, hS, hl, hL, fok_tail hSk, hk1, hn1⟩
    cases q <;> simp only [fcmp] at h
    · refine lv_if_eq (tgt := a) hx hb hd ho (fun hc => ?_) (fun hc => ?_)
      · rw [if_pos hc] at h
        exact hst' _ h
      · rw [if_neg hc] at h
        exact hst' _ h
    · refine lv_if_ne (tgt := a) hx hb hd ho (fun hc => ?_) (fun hc => ?_)
      · rw [if_neg hc] at h
        exact hst' _ h
      · rw [if_pos hc] at h
        exact hst' _ h
    · refine lv_if_lt (tgt := a) hx hb hd ho (fun hc => ?_) (fun hc => ?_)
      · rw [if_pos hc] at h
        exact hst' _ h
      · rw [if_neg hc] at h
        exact hst' _ h
    · refine lv_if_ge (tgt := a) hx hb hd ho (fun hc => ?_) (fun hc => ?_)
      · rw [if_pos hc] at h
        exact hst' _ h
      · rw [if_neg hc] at h
        exact hst' _ h
    · refine lv_if_gt (tgt := a) hx hb hd ho (fun hc => ?_) (fun hc => ?_)
      · rw [if_pos hc] at h
        exact hst' _ h
      · rw [if_neg hc] at h
        exact hst' _ h
    · refine lv_if_le (tgt := a) hx hb hd ho (fun hc => ?_) (fun hc => ?_)
      · rw [if_pos hc] at h
        exact hst' _ h
      · rw [if_neg hc] at h
        exact hst' _ h
  · cases h
theorem fs_goto {off : Int} (C : fCx G p l s m args meth c cc own nL) (hd : decode cc pc = .ok (.goto off, ln)) (hk : fok nL ret Z pc ln (.goto off, nx, a, b, v, ts) = true) (K : fGo p l e R s m args below meth c G nL MC MS res k) (h : fstep E (.goto off, nx, a, b, v, ts) pc L S μ k1 n1 k = some res) (hs : fSt G s nL MC MS L S μ k1 n1 H locs ls) :
    W p l e R s m args below meth c H locs k1 n1 (vx_MQ below (fQ G res) (fXC G res) args s MC MS (fA G)) (F0 m pc ls (S.map (ftv G))) := by
  obtain ⟨hx, hb, hml, hown, hts, hlocks, hst, hG, hP⟩ := C
  obtain ⟨hM, hS, hl, hL, hSk, hk1, hn1⟩ := hs
  simp only [fok, Bool.and_eq_true, Bool.or_eq_true, decide_eq_true_eq] at hk
  obtain ⟨rfl, ho⟩ := hk
  refine lv_goto (tgt := a) hx hb hd ho ?_
  exact K _ L S μ k1 n1 H locs ls h ⟨hM, hS, hl, hL, hSk, hk1, hn1⟩
theorem fs_table {d lo hi : Int} {offs : Array Int} (C : fCx G p l s m args meth c cc own nL) (hd : decode cc pc = .ok (.tableswitch d lo hi offs, ln)) (hk : fok nL ret Z pc ln (.tableswitch d lo hi offs, nx, a, b, v, ts) = true) (K : fGo p l e R s m args below meth c G nL MC MS res k) (h : fstep E (.tableswitch d lo hi offs, nx, a, b, v, ts) pc L S μ k1 n1 k = some res) (hs : fSt G s nL MC MS L S μ k1 n1 H locs ls) :
    W p l e R s m args below meth c H locs k1 n1 (vx_MQ below (fQ G res) (fXC G res) args s MC MS (fA G)) (F0 m pc ls (S.map (ftv G))) := by
  obtain ⟨hx, hb, hml, hown, hts, hlocks, hst, hG, hP⟩ := C
  obtain ⟨hM, hS, hl, hL, hSk, hk1, hn1⟩ := hs
  simp only [fok, Bool.and_eq_true, Bool.or_eq_true, decide_eq_true_eq] at hk
  obtain ⟨rfl, rfl, ho, hj⟩ := hk
  simp only [fstep] at h
  split at h
  · rename_i x S'
    split at h
    · rename_i hc
      refine lv_tableOut (tgt := a) hx hb hd hc ho ?_
      exact K _ L S' μ k1 n1 H locs ls h ⟨hM, hS, hl, hL, fok_tail hSk, hk1, hn1⟩
    · rename_i hc
      obtain ⟨e1, e2⟩ := hj (x.toInt - v.toInt).toNat (by omega)
      cases ht : ts[(x.toInt - v.toInt).toNat]? with
      | none => rw [ht] at e2; cases e2
      | some t =>
        rw [ht] at e1
        cases hoff : offs[(x.toInt - v.toInt).toNat]? with
        | none => rw [hoff] at e1; cases e1
        | some off =>
          rw [hoff] at e1
          have e3 : (pc : Int) + off = (t : Int) := by simpa using e1
          refine lv_tableIn (tgt := t) hx hb hd (by omega) (by omega) hoff e3 ?_
          rw [List.getD_eq_getElem?_getD, ht] at h
          exact K _ L S' μ k1 n1 H locs ls h ⟨hM, hS, hl, hL, fok_tail hSk, hk1, hn1⟩
  · cases h
end FSND
