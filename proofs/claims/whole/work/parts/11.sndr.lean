def fTH (G : fG) (l : Launch) (own : String) (cc : ByteArray) (nL : Nat) (R : Room) (pc a : Nat) : Prop :=
  ∀ (p : Program) (e : Env) (s : State) (m : MethodId) (args : Array Value) (below : List Frame) (meth : Method) (c : Code) (H : Heap) (locs : List Loc) (k1 n1 MC MS : Nat) (ls : Array Slot) (rest : List fV) (Qc : Array Value → State → Outcome → State → Prop) (XC : String → State → State → Prop), fCx G p l s m args meth c cc own nL → (∀ x ∈ c.exceptionTable.toList, False) → va_S (fA G) s.heap H locs → ls.size = nL → fcats rest ≤ 8 →
  k1 + 1 ≤ R.cells → n1 + 6 ≤ R.slots → k1 + 1 ≤ MC → n1 + 6 ≤ MS → (∀ t : State, s.vm.Alike t.vm → H.size ≤ t.heap.size → (∀ q : Nat, q < H.size → t.heap[q]? = H[q]?) → XC (fExn a) s t) →
  W p l e R s m args below meth c H locs k1 n1 (vx_MQ below Qc XC args s MC MS (fA G)) (F0 m pc ls (rest.map (ftv G)))
theorem va_at_lt {D : va_G} {cl : List vw_C} {q : Nat × va_E} {H : Heap} (h : va_at D cl q H) : q.1 < H.size := by
  unfold va_at at h
  split at h
  · exact (Array.getElem?_eq_some_iff.mp h).1
  · obtain ⟨r, -, cell, hc, -⟩ := h
    exact (Array.getElem?_eq_some_iff.mp hc).1
theorem fMem_kept {G : fG} {μ : fM} {H H1 : Heap} (hq : ∀ q : Nat, q < H.size → H1[q]? = H[q]?) (h : fMem G μ H) : fMem G μ H1 := by
  obtain ⟨h1, q, m, n, a, ml, hP, h2⟩ := h
  exact ⟨fun k x hx => (h1 k x hx).kept (hq _ (va_at_lt (h1 k x hx))), q, m, n, a, ml, fun k x hx => (hP k x hx).kept (hq _ (va_at_lt (hP k x hx))), h2⟩
section FSND3
variable {p : Program} {l : Launch} {e : Env} {R : Room} {s : State} {m : MethodId} {args : Array Value} {below : List Frame} {meth : Method} {c : Code} {G : fG} {cc : ByteArray} {own : String} {nL MC MS : Nat} {res : fR}
variable {ret : Option FieldType} {Z : fT5} {E : fE} {k : fK} {ln nx a b : Nat} {v : Int32} {ts : List Nat} {pc : Nat} {L : List (Option fV)} {S : List fV} {μ : fM} {k1 n1 : Nat} {H : Heap} {locs : List Loc} {ls : Array Slot}
/-- a return of a small type: what the type keeps is answered -/
theorem fW_zret {Qc : Array Value → State → Outcome → State → Prop} {free : Addr → Prop} {v w : Int32} {ty : FieldType} (hexec : p.tables.exec = Jvm.exec) (hb : c.code = cc) (hr : meth.sig.returnType = some ty) (hn : narrow ty (.int v) = .int w)
    (hq : ∀ t : State, t.heap = H → s.WarmedH t.vm → Qc args s (.returned (some (.int w))) t) (hf : ∀ q ∈ locs, free q.base)
    {pc : Nat} {ls : Array Slot} (hdg : decode cc pc = .ok (.ireturn, 1)) (hlocks : meth.locks = false) : W p l e R s m args below meth c H locs k1 n1 (MQ below Qc args s k1 n1 free) (F0 m pc ls [.int v]) := by
  intro T hT X
  obtain ⟨fs, hret, hrun, hended, hW, hframe⟩ := X.leave (v := some (.int w)) (fun h => by rw [hr] at h; cases h)
  have hmeth' : T.vm.method? m = some meth := X.method'
  refine ⟨T.setFrames fs, ?_, .returned (some (.int w)), hrun, hended, hq _ hT hW, locs, ⟨⟨_, rfl⟩, hW, hframe⟩, hf⟩
  jvm_step X.here [X.here.top, hexec, hb, hdg, hmeth', hr, hn]
  (try refine ⟨rfl, ?_⟩); (try refine ⟨rfl, ?_⟩)
  first | (intro acts; rw [hret _ acts rfl rfl rfl]) | rw [hret _ _ rfl rfl rfl]
  exact Steps.refl _
theorem fq_ret {v : Option fV} {μ : fM} {t : State} (hv : ∀ x, v = some x → fVok x) (hM : fMem G μ H) (hS : va_S (fA G) s.heap H locs) (ht : t.heap = H) : fQ G (.inl v, μ) args s (.returned (v.map (ftv G))) t := ⟨⟨v, rfl, rfl, hv, by rw [ht]; exact hM⟩, hS.F ht⟩
theorem fs_ireturn  (C : fCx G p l s m args meth c cc own nL) (hd : decode cc pc = .ok (.ireturn, ln)) (hk : fok nL ret Z pc ln (.ireturn, nx, a, b, v, ts) = true) (hr : meth.sig.returnType = ret) (K : fGo p l e R s m args below meth c G nL MC MS res k) (h : fstep E (.ireturn, nx, a, b, v, ts) pc L S μ k1 n1 k = some res) (hs : fSt G s nL MC MS L S μ k1 n1 H locs ls) :
    W p l e R s m args below meth c H locs k1 n1 (vx_MQ below (fQ G res) (fXC G res) args s MC MS (fA G)) (F0 m pc ls (S.map (ftv G))) := by
  obtain ⟨hx, hb, hml, hown, hts, hlocks, hst, hG, hP⟩ := C
  obtain ⟨hM, hS, hl, hL, hSk, hk1, hn1⟩ := hs
  simp only [fok, Bool.and_eq_true, Bool.or_eq_true, decide_eq_true_eq] at hk
  obtain ⟨rfl, hk⟩ := hk
  simp only [fstep] at h
  split at h
  · rename_i x
    cases h
    refine W.widen hk1 hn1 (vx_ret ?_)
    rcases hk with ⟨rfl, rfl⟩ | ⟨rfl, rfl⟩ | ⟨rfl, rfl⟩
    · exact fW_zret (v := x) (w := x) hx hb hr rfl (fun t ht hW => fq_ret (v := some (vI x)) (fun y hy => by cases hy; trivial) hM hS ht) hS.2.2 hd hlocks
    · exact fW_zret (v := x) (w := x &&& 1) hx hb hr rfl (fun t ht hW => fq_ret (v := some (vI (x &&& 1))) (fun y hy => by cases hy; trivial) hM hS ht) hS.2.2 hd hlocks
    · exact fW_zret (v := x) (w := x.toUInt32.toUInt16.toUInt32.toInt32) hx hb hr rfl (fun t ht hW => fq_ret (v := some (vI (x.toUInt32.toUInt16.toUInt32.toInt32))) (fun y hy => by cases hy; trivial) hM hS ht) hS.2.2 hd hlocks
  · cases h
theorem fs_lreturn  (C : fCx G p l s m args meth c cc own nL) (hd : decode cc pc = .ok (.lreturn, ln)) (hk : fok nL ret Z pc ln (.lreturn, nx, a, b, v, ts) = true) (hr : meth.sig.returnType = ret) (K : fGo p l e R s m args below meth c G nL MC MS res k) (h : fstep E (.lreturn, nx, a, b, v, ts) pc L S μ k1 n1 k = some res) (hs : fSt G s nL MC MS L S μ k1 n1 H locs ls) :
    W p l e R s m args below meth c H locs k1 n1 (vx_MQ below (fQ G res) (fXC G res) args s MC MS (fA G)) (F0 m pc ls (S.map (ftv G))) := by
  obtain ⟨hx, hb, hml, hown, hts, hlocks, hst, hG, hP⟩ := C
  obtain ⟨hM, hS, hl, hL, hSk, hk1, hn1⟩ := hs
  simp only [fok, Bool.and_eq_true, Bool.or_eq_true, decide_eq_true_eq] at hk
  obtain ⟨rfl, rfl⟩ := hk
  simp only [fstep] at h
  split at h
  · rename_i x
    cases h
    refine W.widen hk1 hn1 (vx_ret ?_)
    exact W.lret (v := x) hx hb hr (fun t ht hW => fq_ret (v := some (vL x)) (fun y hy => by cases hy; trivial) hM hS ht) hS.2.2 hd hlocks
  · cases h
theorem fs_dreturn  (C : fCx G p l s m args meth c cc own nL) (hd : decode cc pc = .ok (.dreturn, ln)) (hk : fok nL ret Z pc ln (.dreturn, nx, a, b, v, ts) = true) (hr : meth.sig.returnType = ret) (K : fGo p l e R s m args below meth c G nL MC MS res k) (h : fstep E (.dreturn, nx, a, b, v, ts) pc L S μ k1 n1 k = some res) (hs : fSt G s nL MC MS L S μ k1 n1 H locs ls) :
    W p l e R s m args below meth c H locs k1 n1 (vx_MQ below (fQ G res) (fXC G res) args s MC MS (fA G)) (F0 m pc ls (S.map (ftv G))) := by
  obtain ⟨hx, hb, hml, hown, hts, hlocks, hst, hG, hP⟩ := C
  obtain ⟨hM, hS, hl, hL, hSk, hk1, hn1⟩ := hs
  simp only [fok, Bool.and_eq_true, Bool.or_eq_true, decide_eq_true_eq] at hk
  obtain ⟨rfl, rfl⟩ := hk
  simp only [fstep] at h
  split at h
  · rename_i x
    cases h
    refine W.widen hk1 hn1 (vx_ret ?_)
    exact W.dret (v := x) hx hb hr (fun t ht hW => fq_ret (v := some (vD x)) (fun y hy => by cases hy; trivial) hM hS ht) hS.2.2 hd hlocks
  · cases h
theorem fs_areturn  (C : fCx G p l s m args meth c cc own nL) (hd : decode cc pc = .ok (.areturn, ln)) (hk : fok nL ret Z pc ln (.areturn, nx, a, b, v, ts) = true) (hr : meth.sig.returnType = ret) (K : fGo p l e R s m args below meth c G nL MC MS res k) (h : fstep E (.areturn, nx, a, b, v, ts) pc L S μ k1 n1 k = some res) (hs : fSt G s nL MC MS L S μ k1 n1 H locs ls) :
    W p l e R s m args below meth c H locs k1 n1 (vx_MQ below (fQ G res) (fXC G res) args s MC MS (fA G)) (F0 m pc ls (S.map (ftv G))) := by
  obtain ⟨hx, hb, hml, hown, hts, hlocks, hst, hG, hP⟩ := C
  obtain ⟨hM, hS, hl, hL, hSk, hk1, hn1⟩ := hs
  simp only [fok, Bool.and_eq_true, Bool.or_eq_true, decide_eq_true_eq] at hk
  obtain ⟨rfl, hk⟩ := hk
  simp only [fstep] at h
  split at h
  · rename_i x
    cases h
    refine W.widen hk1 hn1 (vx_ret ?_)
    have hv : ∀ y, some (Sum.inl x : fV) = some y → fVok y := fun y hy => by cases hy; exact hSk _ List.mem_cons_self
    split at hk
    · rename_i n
      exact W.aret (v := .ref (G.1 x)) hx hb hr (Or.inl ⟨n, rfl⟩) (Or.inr ⟨_, rfl⟩) (fun t ht hW => fq_ret (v := some (.inl x)) hv hM hS ht) hS.2.2 hd hlocks
    · rename_i n
      exact W.aret (v := .ref (G.1 x)) hx hb hr (Or.inr ⟨n, rfl⟩) (Or.inr ⟨_, rfl⟩) (fun t ht hW => fq_ret (v := some (.inl x)) hv hM hS ht) hS.2.2 hd hlocks
    · cases hk
  · cases h
theorem fs_return  (C : fCx G p l s m args meth c cc own nL) (hd : decode cc pc = .ok (.return_, ln)) (hk : fok nL ret Z pc ln (.return_, nx, a, b, v, ts) = true) (hr : meth.sig.returnType = ret) (K : fGo p l e R s m args below meth c G nL MC MS res k) (h : fstep E (.return_, nx, a, b, v, ts) pc L S μ k1 n1 k = some res) (hs : fSt G s nL MC MS L S μ k1 n1 H locs ls) :
    W p l e R s m args below meth c H locs k1 n1 (vx_MQ below (fQ G res) (fXC G res) args s MC MS (fA G)) (F0 m pc ls (S.map (ftv G))) := by
  obtain ⟨hx, hb, hml, hown, hts, hlocks, hst, hG, hP⟩ := C
  obtain ⟨hM, hS, hl, hL, hSk, hk1, hn1⟩ := hs
  simp only [fok, Bool.and_eq_true, Bool.or_eq_true, decide_eq_true_eq] at hk
  obtain ⟨rfl, rfl⟩ := hk
  simp only [fstep] at h
  split at h
  · cases h
    refine W.widen hk1 hn1 (vx_ret ?_)
    exact W.vret hx hb hr (fun t ht hW => fq_ret (v := none) (fun y hy => by cases hy) hM hS ht) hS.2.2 hd hlocks
  · cases h
theorem fs_new {x : Nat} (C : fCx G p l s m args meth c cc own nL) (hd : decode cc pc = .ok (.new x, ln)) (hk : fok nL ret Z pc ln (.new x, nx, a, b, v, ts) = true) (hE : E.2.1 = (MC, MS)) (hR : MC ≤ R.cells ∧ MS ≤ R.slots) (hth : ∀ x ∈ Z.2.2.1, fTH G l own cc nL R x.1 x.2) (hex : E.2.2.1 = [] → ∀ x ∈ c.exceptionTable.toList, False) (K : fGo p l e R s m args below meth c G nL MC MS res k) (h : fstep E (.new x, nx, a, b, v, ts) pc L S μ k1 n1 k = some res) (hs : fSt G s nL MC MS L S μ k1 n1 H locs ls) :
    W p l e R s m args below meth c H locs k1 n1 (vx_MQ below (fQ G res) (fXC G res) args s MC MS (fA G)) (F0 m pc ls (S.map (ftv G))) := by
  obtain ⟨hx, hb, hml, hown, hts, hlocks, hst, hG, hP⟩ := C
  obtain ⟨hM, hS, hl, hL, hSk, hk1, hn1⟩ := hs
  simp only [fok, Bool.and_eq_true, Bool.or_eq_true, decide_eq_true_eq] at hk
  simp only [fstep] at h
  split at h
  · rename_i hnil
    rw [hE] at h
    cases hb0 : (Nat.ble (k1 + 1) MC && (Nat.ble (n1 + 6) MS && Nat.ble (fcats S) 8)) <;> rw [hb0] at h
    · cases h
    simp only [cond_true] at h
    cases h
    rw [Bool.and_eq_true, Bool.and_eq_true] at hb0
    obtain ⟨g1, g2, g3⟩ := hb0
    have g1 := Nat.le_of_ble_eq_true g1
    have g2 := Nat.le_of_ble_eq_true g2
    have g3 := Nat.le_of_ble_eq_true g3
    refine hth (pc, a) hk p e s m args below meth c H locs k1 n1 MC MS ls S _ _ ⟨hx, hb, hml, hown, hts, hlocks, hst, hG, hP⟩ (hex hnil) hS hl.1 g3 (by omega) (by omega) g1 g2 (fun t hvm hz hq => ⟨⟨a, rfl, rfl, fMem_kept hq hM⟩, Nat.le_trans hS.1 hz, fun q h1 h2 => ?_⟩)
    rw [hq q (Nat.lt_of_lt_of_le h1 hS.1)]
    exact hS.2.1 q h1 h2
  · cases h
/-- what a handler of this method takes -/
def fHN (p : Program) (l : Launch) (e : Env) (R : Room) (s : State) (m : MethodId) (args : Array Value) (below : List Frame) (meth : Method) (c : Code) (G : fG) (nL pc x nx a : Nat) : Prop :=
  ∀ (H : Heap) (locs : List Loc) (k1 n1 : Nat) (Q : State → Prop) (ls : Array Slot) (rest : List Value) (q : Addr) (ce : Cell) (L : List (Option fV)), H[q]? = some ce → ce.vm = .none → s.vm.findClass (fExn x) = some ce.cls → fLH G ls nL L → (∀ ls' : Array Slot, fLH G ls' nL (fput1 L a none) → W p l e R s m args below meth c H locs k1 n1 Q (F0 m nx ls' [])) → vx_W p l e R s m args below meth c H locs k1 n1 Q (F0 m pc ls rest) q
theorem fs_call {ins : Instr} (C : fCx G p l s m args meth c cc own nL) (hd : decode cc pc = .ok (ins, 3)) (hin : (ins, a, b) ∈ Z.2.1) (hE : E.2.1 = (MC, MS)) (hR : MC ≤ R.cells ∧ MS ≤ R.slots) (hex : E.2.2.1 = [] → ∀ x ∈ c.exceptionTable.toList, False) (hhn : ∀ pc x nx a, fhand E.2.2.1 pc x = some (nx, a) → fHN p l e R s m args below meth c G nL pc x nx a)
    (hcs : ∀ x ∈ Z.2.1, ∃ f, E.1[x.2.1]? = some f ∧ fCS G l own cc nL R x.1 x.2.2 f.1 f.2.1 f.2.2) (K : fGo p l e R s m args below meth c G nL MC MS res k) (h : fcall E a b (pc + 3) pc L S μ k1 n1 k = some res) (hs : fSt G s nL MC MS L S μ k1 n1 H locs ls) :
    W p l e R s m args below meth c H locs k1 n1 (vx_MQ below (fQ G res) (fXC G res) args s MC MS (fA G)) (F0 m pc ls (S.map (ftv G))) := by
  have C' := C
  obtain ⟨hx, hb, hml, hown, hts, hlocks, hst, hG, hP⟩ := C
  obtain ⟨hM, hS, hl, hL, hSk, hk1, hn1⟩ := hs
  obtain ⟨f, hf, hF⟩ := hcs _ hin
  unfold fcall at h
  rw [show E.1[a]? = some f from hf] at h
  simp only [hE] at h
  cases hb0 : (Nat.ble (k1 + f.2.1) MC && (Nat.ble (n1 + f.2.2) MS && (Nat.ble b S.length && Nat.ble (fcats (S.drop b)) 8))) <;> rw [hb0] at h
  · cases h
  simp only [cond_true] at h
  rw [Bool.and_eq_true, Bool.and_eq_true, Bool.and_eq_true] at hb0
  obtain ⟨g1, g2, g3, g4⟩ := hb0
  have g1 := Nat.le_of_ble_eq_true g1
  have g2 := Nat.le_of_ble_eq_true g2
  have g3 := Nat.le_of_ble_eq_true g3
  have g4 := Nat.le_of_ble_eq_true g4
  cases hq : f.1 (S.take b).reverse μ with
  | none => rw [hq] at h; cases h
  | some r =>
    rw [hq] at h
    have hSr : S = (S.take b).reverse.reverse ++ S.drop b := by rw [List.reverse_reverse, List.take_append_drop]
    have hdok : ∀ v ∈ S.drop b, fVok v := fun v hv => hSk v (List.mem_of_mem_drop hv)
    rw [hSr]
    refine hF p e s m args below meth c H locs k1 n1 _ pc ls C' hd hl.1 (S.take b).reverse (S.drop b) μ r (by rw [List.length_reverse, List.length_take]; exact Nat.min_eq_left g3) hq (fun v hv => hSk v (List.mem_of_mem_take (List.mem_reverse.mp hv))) g4 hM hS (by omega) (by omega) (fun v hv hvo H1 locs1 hM1 hS1 => ?_) (fun x hn H1 locs1 q ce hM1 hS1 hce hcv hcl => ?_)
    · obtain ⟨r1, r2⟩ := r
      simp only at hv hM1
      subst hv
      refine K (pc + 3) L (v.toList ++ S.drop b) r2 (k1 + f.2.1) (n1 + f.2.2) H1 locs1 ls h ⟨hM1, hS1, hl, hL, fun x hx => ?_, g1, g2⟩
      rcases List.mem_append.mp hx with hx | hx
      · exact hvo x (Option.mem_toList.mp hx)
      · exact hdok x hx
    · obtain ⟨r1, r2⟩ := r
      simp only at hn hM1
      subst hn
      have h2 : fthrow E pc L r2 (k1 + f.2.1) (n1 + f.2.2) x k = some res := h
      unfold fthrow at h2
      split at h2
      · rename_i hnil
        cases h2
        exact vx_out (E := fExn x) (fun z hz => absurd (hex hnil z hz) id) hlocks hce hcv hcl (fun t ht hvm => ⟨⟨x, rfl, rfl, by rw [ht]; exact hM1⟩, hS1.F ht⟩) hS1.2.2 g1 g2
      · split at h2
        · rename_i nx' a' hh
          exact hhn pc x nx' a' hh H1 locs1 _ _ _ ls _ q ce L hce hcv hcl hl (fun ls' hl' => K nx' (fput1 L a' none) [] r2 _ _ H1 locs1 ls' h2 ⟨hM1, hS1, hl', fput1_ok hL (fun v hv => by cases hv), fun _ hx => (List.not_mem_nil hx).elim, g1, g2⟩)
        · cases h2
theorem fcs_any {ins : Instr} {a b : Nat} {l2 : List (Instr × Nat × Nat)} (h : l2.any (fun q => decide (q.1 = ins) && (decide (q.2.1 = a) && decide (q.2.2 = b))) = true) : (ins, a, b) ∈ l2 := by
  obtain ⟨q, hq, h2⟩ := List.any_eq_true.mp h
  simp only [Bool.and_eq_true, decide_eq_true_eq] at h2
  obtain ⟨e1, e2, e3⟩ := h2
  rw [← e1, ← e2, ← e3]
  exact hq
end FSND3
