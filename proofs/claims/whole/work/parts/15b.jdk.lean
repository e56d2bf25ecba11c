/-! JDK MEMBERS on a StringBuilder and on Strings: their code walked, over worlds of listed cells -/
theorem jX_of {G : fG} {U : State} (h : fPre G U) : fX G U := h.2.2.2.2.2.2.2.2.2.2.2
def jPc (G : fG) (X : State → Prop) (av : List Value) (ws : va_W) : Array Value → State → Prop := fun v U => v = av.toArray ∧ fPre G U ∧ va_P G.2.1 fcl ws U.heap ∧ va_D (fA G) ws ∧ X U
def jQ (G : fG) (post : Option Value → va_W → Prop) : Array Value → State → Outcome → State → Prop := fun _ st o t => (∃ (v : Option Value) (ws : va_W), o = .returned v ∧ post v ws ∧ va_P G.2.1 fcl ws t.heap ∧ va_D (fA G) ws) ∧ va_F (fA G) st t
def jCX (G : fG) (X : State → Prop) (l : Launch) (y : MethodName) (wl : List Jvm.Cond) (rm : Room) (av : List Value) (w : va_W) (post : Option Value → va_W → Prop) : Prop := Met l y wl rm (jPc G X av w) (jQ G post) rm.cells rm.slots (fA G)
abbrev jT1 : State → Prop := fun _ => True
abbrev jCT (G : fG) (l : Launch) (y : MethodName) (wl : List Jvm.Cond) (rm : Room) (av : List Value) (w : va_W) (post : Option Value → va_W → Prop) : Prop := jCX G jT1 l y wl rm av w post
def jTl (l : List (Jvm.Cond × Nat)) : Prop := ∀ q ∈ l, lw_tbl[q.2]? = some q.1 ∧ goodWord q.1 = true
theorem jTl_at {l : List (Jvm.Cond × Nat)} (h : jTl l) (k : Nat) {w : Jvm.Cond} {i : Nat} (hk : l[k]? = some (w, i)) : w ∈ fT := fT_mem i (h (w, i) (List.mem_of_getElem? hk)).1 (h (w, i) (List.mem_of_getElem? hk)).2
theorem jof {G : fG} {X : State → Prop} {l : Launch} {y : MethodName} {cc : ByteArray} {nL : Nat} {ret : Option FieldType} {own : String} {rm : Room} {av : List Value} {w : va_W} {post : Option Value → va_W → Prop} (hl : l.stackTraces = false) (hG : fWf G) (hy : plainName y.cls = true) (hown : y.cls = own) (hn : (lg_sl av).length ≤ nL)
    (body : ∀ (p : Program) (e : Env) (s : State) (m : MethodId) (args : Array Value) (below : List Frame) (meth : Method) (c : Code) (ls : Array Slot), fCx G p l s m args meth c cc own nL → meth.sig.returnType = ret → lv_has ls nL (lv_args 0 av) → va_P G.2.1 fcl w s.heap → va_D (fA G) w → va_S (fA G) s.heap s.heap [] → X s →
      W p l e rm s m args below meth c s.heap [] 0 0 (MQ below (jQ G post) args s rm.cells rm.slots (fA G)) (F0 m 0 ls [])) : jCX G X l y (fw0 y cc nL ret) rm av w post := by
  refine Met.ofW (cc := cc) (maxL := nL) (ret := ret) hy rfl ?_
  intro p e s m args below meth c s₁ B hml hv
  obtain ⟨rfl, hP, hW, hD, hXs⟩ := hv
  have hts : ∀ w ∈ fT, w.before av.toArray s = true := fun w hw => atoms_spec (ws := fw0 y cc nL ret) B.pre w (List.mem_cons_of_mem _ hw)
  have hown' : s.vm.findClass own = some m.cls := by rw [← hown]; exact findClass_of_methodNamed B.named
  rw [lg_entry_eq]
  exact body p e s m _ below meth c _ ⟨B.exec, B.bytes, hml, hown', hts, B.notSynchronized, hl, hG, hP⟩ B.returns (lv_entry av hn) hW hD va_S.rf hXs
theorem j_uw : ∀ w ∈ u_ws RJ4 TJ4 4, w ∈ fT := by
  have h : ∀ q ∈ (u_ws RJ4 TJ4 4).zip [306, 308, 310, 312], lw_tbl[q.2]? = some q.1 := by decide +kernel
  have g : ∀ w ∈ u_ws RJ4 TJ4 4, goodWord w = true := by decide +kernel
  have z : ((u_ws RJ4 TJ4 4).zip [306, 308, 310, 312]).map Prod.fst = u_ws RJ4 TJ4 4 := by decide +kernel
  intro w hw
  rw [← z] at hw
  obtain ⟨q, hq, rfl⟩ := List.mem_map.mp hw
  exact fT_mem _ (h q hq) (g _ (by rw [← z]; exact List.mem_map.mpr ⟨q, hq, rfl⟩))
section JROWS
variable {p : Program} {l : Launch} {e : Env} {R : Room} {s : State} {m : MethodId} {args : Array Value} {below : List Frame} {meth : Method} {c : Code} {H : Heap} {locs : List Loc} {cells slots : Nat} {Q : State → Prop}
variable {cc : ByteArray} {pc nL : Nat} {ls : Array Slot} {rest : List Value} {G : fG} {own : String}
theorem j_top {x x' : Int32} (h : x = x') (k : W p l e R s m args below meth c H locs cells slots Q (F0 m pc ls (.int x' :: rest))) : W p l e R s m args below meth c H locs cells slots Q (F0 m pc ls (.int x :: rest)) := by
  subst h
  exact k
theorem j_run {post : Option Value → va_W → Prop} {st0 : List Value} {a : Array Value} {mc ms : Nat} (hr : va_Run p l e R s m args below meth c H locs cells slots mc ms (F0 m pc ls st0) rest (jQ G post a) (fA G)) (hS : va_S (fA G) s.heap H locs)
    (kk : ∀ (v : Option Value) (ws : va_W) (H1 : Heap) (locs1 : List Loc), post v ws → va_P G.2.1 fcl ws H1 → va_D (fA G) ws → va_S (fA G) s.heap H1 locs1 → W p l e R s m args below meth c H1 locs1 (cells + mc) (slots + ms) Q (F0 m (pc + 3) ls (v.toList ++ rest))) :
    W p l e R s m args below meth c H locs cells slots Q (F0 m pc ls st0) := by
  intro T hT X
  obtain ⟨v, st₀, t, T', L, h0, X', hL, e1, e2, ⟨⟨v', ws', ho, hp, hP1, hD1⟩, hF⟩, st⟩ := hr T hT X
  cases ho
  obtain ⟨k1, k2, k3⟩ := vx_keep h0 e1 hS (fun _ _ h => h) (fun _ h => h) hL hF
  obtain ⟨t2, a1, b1⟩ := kk v ws' T'.heap (locs ++ L) hp (by rw [e1]; exact hP1) hD1 k3 T' rfl X'
  exact ⟨t2, st _ a1, b1⟩
theorem jPc_blind {X : State → Prop} {av : List Value} {ws : va_W} (hX : ∀ (U : State) (g : JFrame) (mk : MethodId) (a' : Array Value), X U → X (U.calling g mk a')) : FrameBlind (jPc G X av ws) := fun a' U g mk h => ⟨h.1, fPre_same (s := U) (U := U.calling g mk a') rfl rfl h.2.1, h.2.2.1, h.2.2.2.1, hX U g mk a' h.2.2.2.2⟩
theorem jPc_in {X : State → Prop} {av : List Value} {ws : va_W} (hP : fPre G s) (hW : va_P G.2.1 fcl ws H) (hD : va_D (fA G) ws) (hS : va_S (fA G) s.heap H locs) (hX : ∀ U : State, U.heap = H → s.WarmedH U.vm → X U) : ∀ U : State, U.heap = H → s.WarmedH U.vm → jPc G X av ws av.toArray U := fun U hU hM => ⟨rfl, fPre_warm (locs := locs) hM (by rw [hU]; exact hS) hP, by rw [hU]; exact hW, hD, hX U hU hM⟩
theorem j_len {x : MethodName} {n : Nat} (hd : fhd x n) : ∀ sig, parseMethodDescriptor x.desc = some sig → n = sig.parameters.length := fun sig h => by
  have h2 := hd.2.2
  rw [h] at h2
  exact (Option.some.inj h2).symm
/-- a virtual call, on the builder, of a method that her superclass has -/
theorem j_callU {x : MethodName} {cy : ByteArray} {maxL n index b : Nat} {ret : Option FieldType} {rm : Room} {As : List Value} {ws : va_W} {post : Option Value → va_W → Prop} {fs : List Value} (C : fCx G p l s m args meth c cc own nL) (hM : jCT G l x (fw0 x cy maxL ret) rm (.ref b :: As) ws post)
    (hw : Jvm.Cond.code x cy maxL ret ∈ fT ∧ Jvm.Cond.initialized x.cls ∈ fT ∧ Jvm.Cond.methodLink own index x ∈ fT ∧ Jvm.Cond.sameMethod x.cls x.cls x.name x.desc ∈ fT ∧ Jvm.Cond.instanceMethod x ∈ fT) (hsel : (Jvm.Cond.selects RJ4 x x).before args s = true) (hd : fhd x n) (hR : rm.frames + 1 ≤ R.frames ∧ 8 + (maxL + 11) + rm.locals ≤ R.locals) (hls : ls.size = nL)
    (hP : va_P G.2.1 fcl ws H) (hD : va_D (fA G) ws) (hS : va_S (fA G) s.heap H locs) (k0 : Nat) (hk : ws[k0]? = some (b, .inr (9, fs))) (hn : As.length = n) (hcat : (rest.map fun v => v.category).sum ≤ 8) (hdg : decode cc pc = .ok (.invokevirtual index, 3)) (hf : cells + rm.cells ≤ R.cells ∧ slots + rm.slots ≤ R.slots)
    (kk : ∀ (v : Option Value) (ws' : va_W) (H1 : Heap) (locs1 : List Loc), post v ws' → va_P G.2.1 fcl ws' H1 → va_D (fA G) ws' → va_S (fA G) s.heap H1 locs1 → W p l e R s m args below meth c H1 locs1 (cells + rm.cells) (slots + rm.slots) Q (F0 m (pc + 3) ls (v.toList ++ rest))) :
    W p l e R s m args below meth c H locs cells slots Q (F0 m pc ls (As.reverse ++ .ref b :: rest)) := by
  obtain ⟨hx, hb, hml, hown, hts, hlocks, hst, hG, hPr⟩ := C
  obtain ⟨w1, w2, w3, w4, w5⟩ := hw
  exact j_run (va_runU (C := RJ4) (owner := x.cls) (x := x) (As := As) (Ts := fT) (own := own) (nL := nL) (n := n) ⟨hx, hb, hml, hown, hts⟩ hM ⟨⟨rfl, rfl, hR.1, hR.2, pay_in hts (fT_fw0 w1), List.mem_cons_self⟩, hts _ w1, hts _ w2, ⟨hd.1, hd.2.1⟩, j_len hd, hts _ w3, hts _ w4, va_Decl.of (hts _ w5) (hts _ w1), hsel, hts _ w5⟩ ⟨jPc_blind (fun _ _ _ _ h => h), va_recv (q := (RJ4, TJ4, 4)) hPr.1 hP rfl hk, jPc_in hPr hP hD hS (fun _ _ _ => trivial)⟩ rfl hn hls rfl (by show 2 * 0 + _ ≤ 8; omega) hdg hf) hS kk
/-- super.m(..) of the builder's -/
theorem j_callSU {x : MethodName} {cy : ByteArray} {maxL n index b : Nat} {ret : Option FieldType} {rm : Room} {As : List Value} {ws : va_W} {post : Option Value → va_W → Prop} {fs : List Value} (C : fCx G p l s m args meth c cc own nL) (hM : jCT G l x (fw0 x cy maxL ret) rm (.ref b :: As) ws post)
    (hw : Jvm.Cond.code x cy maxL ret ∈ fT ∧ Jvm.Cond.initialized x.cls ∈ fT ∧ Jvm.Cond.methodLink own index x ∈ fT ∧ Jvm.Cond.sameMethod x.cls x.cls x.name x.desc ∈ fT ∧ Jvm.Cond.superclass own x.cls ∈ fT ∧ Jvm.Cond.instanceMethod x ∈ fT) (hno : x.name ≠ "<init>") (hd : fhd x n) (hR : rm.frames + 1 ≤ R.frames ∧ 8 + (maxL + 11) + rm.locals ≤ R.locals) (hls : ls.size = nL)
    (hP : va_P G.2.1 fcl ws H) (hD : va_D (fA G) ws) (hS : va_S (fA G) s.heap H locs) (k0 : Nat) (hk : ws[k0]? = some (b, .inr (9, fs))) (hn : As.length = n) (hcat : (rest.map fun v => v.category).sum ≤ 8) (hdg : decode cc pc = .ok (.invokespecial index, 3)) (hf : cells + rm.cells ≤ R.cells ∧ slots + rm.slots ≤ R.slots)
    (kk : ∀ (v : Option Value) (ws' : va_W) (H1 : Heap) (locs1 : List Loc), post v ws' → va_P G.2.1 fcl ws' H1 → va_D (fA G) ws' → va_S (fA G) s.heap H1 locs1 → W p l e R s m args below meth c H1 locs1 (cells + rm.cells) (slots + rm.slots) Q (F0 m (pc + 3) ls (v.toList ++ rest))) :
    W p l e R s m args below meth c H locs cells slots Q (F0 m pc ls (As.reverse ++ .ref b :: rest)) := by
  obtain ⟨hx, hb, hml, hown, hts, hlocks, hst, hG, hPr⟩ := C
  obtain ⟨w1, w2, w3, w4, w5, w6⟩ := hw
  exact j_run (va_runSU (C := RJ4) (As := As) (Ts := fT) (own := own) (nL := nL) (n := n) (hPr.1.1 9 (RJ4, TJ4, 4) rfl).2 ⟨hx, hb, hml, hown, hts⟩ hM ⟨⟨rfl, rfl, hR.1, hR.2, pay_in hts (fT_fw0 w1), List.mem_cons_self⟩, hts _ w3, hts _ w4, hts _ w5, hts _ w6, hts _ w2, hts _ w1, hno, j_len hd⟩ ⟨jPc_blind (fun _ _ _ _ h => h), va_recv (q := (RJ4, TJ4, 4)) hPr.1 hP rfl hk, jPc_in hPr hP hD hS (fun _ _ _ => trivial)⟩ rfl hn hls rfl (by show 2 * 0 + _ ≤ 8; omega) hdg hf) hS kk
/-- a virtual call on a String -/
theorem j_callT {C0 : String} {x : MethodName} {cy : ByteArray} {maxL n index b : Nat} {ret : Option FieldType} {rm : Room} {As : List Value} {ws : va_W} {post : Option Value → va_W → Prop} (C : fCx G p l s m args meth c cc own nL) (hM : jCT G l x (fw0 x cy maxL ret) rm (.ref b :: As) ws post)
    (hw : Jvm.Cond.code x cy maxL ret ∈ fT ∧ Jvm.Cond.initialized x.cls ∈ fT ∧ Jvm.Cond.methodLink own index x ∈ fT ∧ Jvm.Cond.instanceMethod x ∈ fT ∧ Jvm.Cond.selects C0 x x ∈ fT) (hd : fhd x n) (hR : rm.frames + 1 ≤ R.frames ∧ 8 + (maxL + 11) + rm.locals ≤ R.locals) (hls : ls.size = nL)
    (hP : va_P G.2.1 fcl ws H) (hD : va_D (fA G) ws) (hS : va_S (fA G) s.heap H locs) (hrec : ∃ cell : Cell, H[b]? = some cell ∧ cell.vm.isStatics = false ∧ s.vm.findClass C0 = some cell.cls) (hn : As.length = n) (hcat : (rest.map fun v => v.category).sum ≤ 8) (hdg : decode cc pc = .ok (.invokevirtual index, 3)) (hf : cells + rm.cells ≤ R.cells ∧ slots + rm.slots ≤ R.slots)
    (kk : ∀ (v : Option Value) (ws' : va_W) (H1 : Heap) (locs1 : List Loc), post v ws' → va_P G.2.1 fcl ws' H1 → va_D (fA G) ws' → va_S (fA G) s.heap H1 locs1 → W p l e R s m args below meth c H1 locs1 (cells + rm.cells) (slots + rm.slots) Q (F0 m (pc + 3) ls (v.toList ++ rest))) :
    W p l e R s m args below meth c H locs cells slots Q (F0 m pc ls (As.reverse ++ .ref b :: rest)) := by
  obtain ⟨hx, hb, hml, hown, hts, hlocks, hst, hG, hPr⟩ := C
  obtain ⟨w1, w2, w3, w4, w5⟩ := hw
  exact j_run (va_runV (C := C0) (As := As) (Ts := fT) (own := own) (nL := nL) (n := n) ⟨hx, hb, hml, hown, hts⟩ hM ⟨fCallB hts w1 w2 w3 hd hR, hts _ w4, hts _ w5⟩ ⟨jPc_blind (fun _ _ _ _ h => h), hrec, jPc_in hPr hP hD hS (fun _ _ _ => trivial)⟩ rfl hn hls rfl (by show 2 * 0 + _ ≤ 8; omega) hdg hf) hS kk
/-- a static call -/
theorem j_callS {X : State → Prop} {x : MethodName} {cy : ByteArray} {maxL n index : Nat} {ret : Option FieldType} {rm : Room} {As : List Value} {ws : va_W} {post : Option Value → va_W → Prop} (C : fCx G p l s m args meth c cc own nL) (hM : jCX G X l x (fw0 x cy maxL ret) rm As ws post) (hX : (∀ (U : State) (g : JFrame) (mk : MethodId) (a' : Array Value), X U → X (U.calling g mk a')) ∧ ∀ U : State, U.heap = H → s.WarmedH U.vm → X U)
    (hw : Jvm.Cond.code x cy maxL ret ∈ fT ∧ Jvm.Cond.initialized x.cls ∈ fT ∧ Jvm.Cond.methodLink own index x ∈ fT ∧ Jvm.Cond.static x ∈ fT) (hd : fhd x n) (hR : rm.frames + 1 ≤ R.frames ∧ 8 + (maxL + 11) + rm.locals ≤ R.locals) (hls : ls.size = nL)
    (hP : va_P G.2.1 fcl ws H) (hD : va_D (fA G) ws) (hS : va_S (fA G) s.heap H locs) (hn : As.length = n) (hcat : (rest.map fun v => v.category).sum ≤ 8) (hdg : decode cc pc = .ok (.invokestatic index, 3)) (hf : cells + rm.cells ≤ R.cells ∧ slots + rm.slots ≤ R.slots)
    (kk : ∀ (v : Option Value) (ws' : va_W) (H1 : Heap) (locs1 : List Loc), post v ws' → va_P G.2.1 fcl ws' H1 → va_D (fA G) ws' → va_S (fA G) s.heap H1 locs1 → W p l e R s m args below meth c H1 locs1 (cells + rm.cells) (slots + rm.slots) Q (F0 m (pc + 3) ls (v.toList ++ rest))) :
    W p l e R s m args below meth c H locs cells slots Q (F0 m pc ls (As.reverse ++ rest)) := by
  obtain ⟨hx, hb, hml, hown, hts, hlocks, hst, hG, hPr⟩ := C
  obtain ⟨w1, w2, w3, w4⟩ := hw
  exact j_run (va_runS (As := As) (Ts := fT) (own := own) (nL := nL) (n := n) ⟨hx, hb, hml, hown, hts⟩ hM ⟨fCallB hts w1 w2 w3 hd hR, hts _ w4⟩ ⟨jPc_blind hX.1, jPc_in hPr hP hD hS hX.2⟩ rfl hn hls rfl (by show 2 * 0 + _ ≤ 8; omega) hdg hf) hS kk
end JROWS
abbrev jSb (b q : Nat) (ml n : Int32) : Nat × va_E := (b, .inr (9, [.ref q, .int 0, .int ml, .int n]))
abbrev jAr (G : fG) (q mm : Nat) (a : Nat → Int32) : Nat × va_E := (q, .inl (G.2.2.1 8, mm, .inl a))
theorem j_Pm {D : va_G} {cl : List vw_C} {ws : va_W} {H : Heap} : va_P D cl ws H ↔ ∀ q ∈ ws, va_at D cl q H := ⟨fun h q hq => (List.getElem?_of_mem hq).elim fun i hi => h i q hi, fun h i q hi => h q (List.mem_of_getElem? hi)⟩
theorem j_Dm {A : Nat → Prop} {ws : va_W} : va_D A ws ↔ (ws.map Prod.fst).Nodup ∧ ∀ q ∈ ws, A q.1 := by
  constructor
  · intro h
    refine ⟨?_, fun q hq => (List.getElem?_of_mem hq).elim fun i hi => h.2 i q hi⟩
    unfold List.Nodup
    rw [List.pairwise_iff_getElem]
    intro i j hi hj hij he
    simp only [List.length_map] at hi hj
    have := h.1 i j ws[i] ws[j] (List.getElem?_eq_getElem hi) (List.getElem?_eq_getElem hj) (by simpa using he)
    omega
  · rintro ⟨h1, h2⟩
    refine ⟨fun i j p q hi hj he => ?_, fun i q hi => h2 q (List.mem_of_getElem? hi)⟩
    unfold List.Nodup at h1
    rw [List.pairwise_iff_getElem] at h1
    obtain ⟨hi1, hi2⟩ := List.getElem?_eq_some_iff.mp hi
    obtain ⟨hj1, hj2⟩ := List.getElem?_eq_some_iff.mp hj
    rcases Nat.lt_trichotomy i j with h | h | h
    · exact absurd (by rw [List.getElem_map, List.getElem_map, hi2, hj2]; exact he) (h1 i j (by simpa using hi1) (by simpa using hj1) h)
    · exact h
    · exact absurd (by rw [List.getElem_map, List.getElem_map, hi2, hj2]; exact he.symm) (h1 j i (by simpa using hj1) (by simpa using hi1) h)
theorem j_P2 {D : va_G} {cl : List vw_C} {x y : Nat × va_E} {wr : va_W} {H : Heap} (h : va_P D cl (x :: y :: wr) H) : va_P D cl (y :: x :: wr) H := j_Pm.mpr fun q hq => j_Pm.mp h q (by
  rcases List.mem_cons.mp hq with rfl | hq
  · exact List.mem_cons_of_mem _ List.mem_cons_self
  · rcases List.mem_cons.mp hq with rfl | hq
    · exact List.mem_cons_self
    · exact List.mem_cons_of_mem _ (List.mem_cons_of_mem _ hq))
theorem j_D2 {A : Nat → Prop} {x y : Nat × va_E} {wr : va_W} (h : va_D A (x :: y :: wr)) : va_D A (y :: x :: wr) := by
  rw [j_Dm] at h ⊢
  simp only [List.map_cons, List.nodup_cons, List.mem_cons, not_or, forall_eq_or_imp] at h ⊢
  obtain ⟨⟨⟨h1, h2⟩, h3, h4⟩, h5, h6, h7⟩ := h
  exact ⟨⟨⟨fun e => h1 e.symm, h3⟩, h2, h4⟩, h6, h5, h7⟩
theorem j_P3 {D : va_G} {cl : List vw_C} {x y z : Nat × va_E} {wr : va_W} {H : Heap} (h : va_P D cl (x :: y :: z :: wr) H) : va_P D cl (z :: x :: wr) H := j_Pm.mpr fun q hq => j_Pm.mp h q (by
  rcases List.mem_cons.mp hq with rfl | hq
  · exact List.mem_cons_of_mem _ (List.mem_cons_of_mem _ List.mem_cons_self)
  · rcases List.mem_cons.mp hq with rfl | hq
    · exact List.mem_cons_self
    · exact List.mem_cons_of_mem _ (List.mem_cons_of_mem _ (List.mem_cons_of_mem _ hq)))
theorem j_D3 {A : Nat → Prop} {x y z : Nat × va_E} {wr : va_W} (h : va_D A (x :: y :: z :: wr)) : va_D A (z :: x :: wr) := by
  rw [j_Dm] at h ⊢
  simp only [List.map_cons, List.nodup_cons, List.mem_cons, not_or, forall_eq_or_imp] at h ⊢
  obtain ⟨⟨⟨h1, h2, h3⟩, ⟨h4, h5⟩, h6, h7⟩, h8, h9, h10, h11⟩ := h
  exact ⟨⟨⟨fun e => h2 e.symm, h6⟩, h3, h7⟩, h10, h8, h11⟩
theorem j_by : ∀ k, k < 128 → vp_nar .byte (nI k).toInt8.toInt32 = nI k ∧ vp_nar .byte (nI k) = nI k ∧ ((nI k &&& 255).toUInt32 % 65536).toInt32 = nI k ∧ fits .byte (.int (nI k)) = true ∧ (nI k).toUInt32.toUInt16.toUInt32.toInt32 = nI k := by decide +kernel
theorem j_nf {n : Nat} (h : n ≤ 40) {L : Nat} (hL : 100 ≤ L) : n + (nativeFrameWords "java/lang/System" "arraycopy" 5 + 11) ≤ L := by
  have hnf : nativeFrameWords "java/lang/System" "arraycopy" 5 ≤ 40 := by decide +kernel
  omega
theorem j_ne {a b : Nat} (ha : a < 2 ^ 31) (hb : b < 2 ^ 31) (h : a ≠ b) : ¬ nI a = nI b := fun e => h ((nI_eq ha hb).mp e)
theorem j_subT {k m : Nat} (h : k ≤ m) (hk : k < 2 ^ 29) (hm : m < 2 ^ 29) : nI k - nI m ≤ 0 := by
  have e := pk_sub_toInt (a := k) (b := m) (by omega) (by omega)
  rw [Int32.le_iff_toInt_le, e, Int32.toInt_zero]
  omega
theorem j_subF {k m : Nat} (h : m < k) (hk : k < 2 ^ 31) : ¬ nI k - nI m ≤ 0 := by
  rw [pk_sub (by omega)]
  exact nI_nle (by omega) (by omega)
theorem j_0le {n : Nat} (h : n < 2 ^ 31) : (0 : Int32) ≤ nI n := nI_le (a := 0) (Nat.zero_le n) h
theorem j_neg10 : ∀ k, k < 10 → ¬ -(nI k) ≤ -10 := by decide +kernel
theorem j_neg10T (k : Nat) (h : 10 ≤ k) (hk : k < 100) : -(nI k) ≤ -10 := (show ∀ k, k < 100 → 10 ≤ k → -(nI k) ≤ -10 by decide +kernel) k hk h
theorem j_neg100 : ∀ k, k < 100 → ¬ -(nI k) ≤ 10 * -10 := by decide +kernel
theorem j_m100 : ∀ k, k < 100 → (-100 : Int32) < -(nI k) := by decide +kernel
theorem j_m9T : ∀ k, k < 10 → (-9 : Int32) ≤ -(nI k) := by decide +kernel
theorem j_m9F (k : Nat) (h : 10 ≤ k) (hk : k < 100) : ¬ (-9 : Int32) ≤ -(nI k) := (show ∀ k, k < 100 → 10 ≤ k → ¬ (-9 : Int32) ≤ -(nI k) by decide +kernel) k hk h
theorem j_nn : ∀ k, k < 100 → - -(nI k) = nI k := by decide +kernel
theorem j_dec (n : Nat) (h : n < 1000) : nI (n + 1) + Int32.ofInt (-1) = nI n := (show nI (n + 1) - nI 1 = nI n from pk_sub (by omega)) ▸ by
  rw [Int32.sub_eq_add_neg]
  rfl
theorem j_ifn {b c : Nat} (hb : b < 2 ^ 31) (hc : c < 2 ^ 31) : (if nI b < nI c then nI c else nI b) = nI (if b < c then c else b) := by
  by_cases h : b < c
  · rw [if_pos h, if_pos (nI_lt h hc)]
  · rw [if_neg h, if_neg (nI_nlt (by omega) hb)]
theorem j_fit {x : Int32} (h : fits .byte (.int x) = true) (h0 : 0 ≤ x) : ∃ k, k < 128 ∧ x = nI k := by
  obtain ⟨k, hk, rfl⟩ := nI_of (show ¬ x < 0 from fun q => absurd (Int32.lt_iff_toInt_lt.mp q) (Int.not_lt.mpr (Int32.le_iff_toInt_le.mp h0)))
  refine ⟨k, ?_, rfl⟩
  have e := nI_toInt (n := k) hk
  simp only [fits, Bool.and_eq_true, decide_eq_true_eq] at h
  have h2 := Int32.le_iff_toInt_le.mp h.2
  rw [e] at h2
  have h3 : (127 : Int32).toInt = 127 := by decide
  omega
section JNEW
variable {p : Program} {l : Launch} {e : Env} {R : Room} {s : State} {m : MethodId} {args : Array Value} {below : List Frame} {meth : Method} {c : Code} {H : Heap} {locs : List Loc} {cells slots : Nat} {Q : State → Prop}
variable {cc : ByteArray} {pc nL : Nat} {ls : Array Slot} {rest : List Value} {G : fG} {own : String}
theorem j_newB {n : Int32} {N : Nat} {ws : va_W} (C : fCx G p l s m args meth c cc own nL) (harr : Jvm.Cond.arrayClass .byte ∈ fT) (hP : va_P G.2.1 fcl ws H) (hD : va_D (fA G) ws) (hS : va_S (fA G) s.heap H locs) (hn : ¬ n < 0) (hN : n.toNatClampNeg = N) (hb : N ≤ 200) (hcells : cells + 1 ≤ R.cells) (hslots : slots + 200 ≤ R.slots) (hdg : decode cc pc = .ok (.newarray .byte, 2))
    (kk : ∀ (q : Nat) (H1 : Heap), va_P G.2.1 fcl ((q, .inl (G.2.2.1 8, N, .inl (fun _ => 0))) :: ws) H1 → va_D (fA G) ((q, .inl (G.2.2.1 8, N, .inl (fun _ => 0))) :: ws) → va_S (fA G) s.heap H1 locs → W p l e R s m args below meth c H1 locs (cells + 1) (slots + 200) Q (F0 m (pc + 2) ls (.ref q :: rest))) : W p l e R s m args below meth c H locs cells slots Q (F0 m pc ls (.int n :: rest)) := by
  obtain ⟨hx, hbb, hml, hown, hts, hlocks, hst, hG, hPr⟩ := C
  refine va_newa (atype := .byte) (ty := .byte) (N' := N) (a0 := (N, .inl (fun _ => 0))) hx hbb (hts _ harr) rfl hPr.1 hP hD hS (fun q h => Nat.le_trans hPr.2.1 h) (fun cA => rfl) hn hN (by show N * 1 ≤ _; omega) hcells (by omega) hdg (fun q cA H1 hK1 hP1 hD1 hS1 => ?_)
  have e1 := (hK1.2 9 (cA, .byte) (by rw [List.getElem?_append_right (by simp)]; simp)).2
  have e2 := (hPr.1.2 8 _ (ftys_at G 8 (by decide))).2
  have e3 : cA = G.2.2.1 8 := Option.some.inj (Eq.trans (Eq.symm (show s.vm.findClass _ = some cA from e1)) (show s.vm.findClass _ = some (G.2.2.1 8) from e2))
  subst e3
  refine W.widen (Nat.le_refl _) (show slots + N ≤ slots + 200 by omega) (kk q H1 (j_Pm.mpr fun z hz => j_Pm.mp hP1 z ?_) ?_ hS1)
  · rcases List.mem_cons.mp hz with rfl | hz
    · exact List.mem_append_right _ (List.mem_singleton.mpr rfl)
    · exact List.mem_append_left _ hz
  · rw [j_Dm] at hD1 ⊢
    simp only [List.map_append, List.map_cons, List.map_nil, List.nodup_append, List.mem_append, List.mem_cons, List.nodup_cons, List.not_mem_nil, or_false] at hD1 ⊢
    obtain ⟨⟨h1, h2, h3⟩, h4⟩ := hD1
    refine ⟨⟨fun hq => ?_, h1⟩, fun z hz => h4 z (hz.elim Or.inr Or.inl)⟩
    exact h3 _ hq _ rfl rfl
end JNEW
def jwl : List (Jvm.Cond × Nat) := [(Jvm.Cond.fieldLink "java/lang/AbstractStringBuilder" 18 "java/lang/String" "COMPACT_STRINGS" "Z", 292),
  (Jvm.Cond.fieldLink "java/lang/AbstractStringBuilder" 22 "java/lang/AbstractStringBuilder" "coder" "B", 302),
  (Jvm.Cond.methodLink "jdk/internal/util/ArraysSupport" 194 Lib.Math.max.name, 1180),
  (Jvm.Cond.static Lib.Math.max.name, 467),
  (Jvm.Cond.initialized "java/lang/Math", 75),
  (Jvm.Cond.code Lib.Math.max.name Lib.Math.max.code 2 (some .int), 468),
  (Jvm.Cond.constant "jdk/internal/util/ArraysSupport" 200 2147483639, 1181),
  (Jvm.Cond.fieldLink "java/lang/AbstractStringBuilder" 15 "java/lang/AbstractStringBuilder" "value" "[B", 301),
  (Jvm.Cond.code yJ8_newLength_cabcc cJ8_newLength_cabcc 4 (some .int), 1179),
  (Jvm.Cond.initialized "jdk/internal/util/ArraysSupport", 99),
  (Jvm.Cond.methodLink "java/lang/AbstractStringBuilder" 114 yJ8_newLength_cabcc, 1177),
  (Jvm.Cond.static yJ8_newLength_cabcc, 1178),
  (Jvm.Cond.constant "java/lang/AbstractStringBuilder" 39 2147483647, 1185),
  (Jvm.Cond.arrayClass .byte, 315),
  (Jvm.Cond.methodLink "java/util/Arrays" 304 Lib.Math.min.name, 1196),
  (Jvm.Cond.static Lib.Math.min.name, 196),
  (Jvm.Cond.code Lib.Math.min.name Lib.Math.min.code 2 (some .int), 197),
  (Jvm.Cond.methodLink "java/util/Arrays" 150 arraycopyName, 1197),
  (Jvm.Cond.native arraycopyName, 487),
  (Jvm.Cond.static arraycopyName, 486),
  (Jvm.Cond.initialized "java/lang/System", 93),
  (Jvm.Cond.code yJ5_newCapacity_0f7a4 cJ5_newCapacity_0f7a4 6 (some .int), 1176),
  (Jvm.Cond.initialized "java/lang/AbstractStringBuilder", 78),
  (Jvm.Cond.methodLink "java/lang/AbstractStringBuilder" 104 yJ5_newCapacity_0f7a4, 1173),
  (Jvm.Cond.sameMethod "java/lang/AbstractStringBuilder" "java/lang/AbstractStringBuilder" "newCapacity" "(I)I", 2067),
  (Jvm.Cond.instanceMethod yJ5_newCapacity_0f7a4, 1175),
  (Jvm.Cond.code yJ7_copyOf_9075b cJ7_copyOf_9075b 3 (some (.array .byte)), 1188),
  (Jvm.Cond.initialized "java/util/Arrays", 100),
  (Jvm.Cond.methodLink "java/lang/AbstractStringBuilder" 108 yJ7_copyOf_9075b, 1186),
  (Jvm.Cond.static yJ7_copyOf_9075b, 1187),
  (Jvm.Cond.fieldLink "java/lang/AbstractStringBuilder" 79 "java/lang/AbstractStringBuilder" "count" "I", 305),
  (Jvm.Cond.code yJ5_ensureCapacityInternal_d00df cJ5_ensureCapacityInternal_d00df 3 none, 1172),
  (Jvm.Cond.methodLink "java/lang/AbstractStringBuilder" 100 yJ5_ensureCapacityInternal_d00df, 1169),
  (Jvm.Cond.sameMethod "java/lang/AbstractStringBuilder" "java/lang/AbstractStringBuilder" "ensureCapacityInternal" "(I)V", 2066),
  (Jvm.Cond.instanceMethod yJ5_ensureCapacityInternal_d00df, 1171),
  (Jvm.Cond.selects "java/lang/StringBuilder" yJ5_isLatin1_aae02 yJ5_isLatin1_aae02, 1201),
  (Jvm.Cond.code yJ5_isLatin1_aae02 cJ5_isLatin1_aae02 1 (some .boolean), 1202),
  (Jvm.Cond.methodLink "java/lang/AbstractStringBuilder" 83 yJ5_isLatin1_aae02, 1198),
  (Jvm.Cond.sameMethod "java/lang/AbstractStringBuilder" "java/lang/AbstractStringBuilder" "isLatin1" "()Z", 1200),
  (Jvm.Cond.instanceMethod yJ5_isLatin1_aae02, 1199),
  (Jvm.Cond.code yJ1_canEncode_fc78d cJ1_canEncode_fc78d 1 (some .boolean), 1407),
  (Jvm.Cond.initialized "java/lang/StringLatin1", 102),
  (Jvm.Cond.methodLink "java/lang/AbstractStringBuilder" 191 yJ1_canEncode_fc78d, 1405),
  (Jvm.Cond.static yJ1_canEncode_fc78d, 1406),
  (Jvm.Cond.code yJ5_append_3fe6f cJ5_append_3fe6f 2 (some (.object "java/lang/AbstractStringBuilder")), 1404),
  (Jvm.Cond.methodLink "java/lang/StringBuilder" 50 yJ5_append_3fe6f, 1402),
  (Jvm.Cond.sameMethod "java/lang/AbstractStringBuilder" "java/lang/AbstractStringBuilder" "append" "(C)Ljava/lang/AbstractStringBuilder;", 2072),
  (Jvm.Cond.superclass "java/lang/StringBuilder" "java/lang/AbstractStringBuilder", 314),
  (Jvm.Cond.instanceMethod yJ5_append_3fe6f, 1403),
  (Jvm.Cond.code yJ5_length_8abf5 cJ5_length_8abf5 1 (some .int), 1321),
  (Jvm.Cond.methodLink "java/lang/StringBuilder" 343 yJ5_length_8abf5, 1320),
  (Jvm.Cond.sameMethod "java/lang/AbstractStringBuilder" "java/lang/AbstractStringBuilder" "length" "()I", 1316),
  (Jvm.Cond.instanceMethod yJ5_length_8abf5, 1315),
  (Jvm.Cond.fieldLink "java/lang/AbstractStringBuilder" 73 "java/lang/AbstractStringBuilder" "maybeLatin1" "Z", 303),
  (Jvm.Cond.code yJ5_setLength_d00df cJ5_setLength_d00df 2 none, 1149),
  (Jvm.Cond.methodLink "java/lang/StringBuilder" 333 yJ5_setLength_d00df, 1147),
  (Jvm.Cond.sameMethod "java/lang/AbstractStringBuilder" "java/lang/AbstractStringBuilder" "setLength" "(I)V", 2063),
  (Jvm.Cond.instanceMethod yJ5_setLength_d00df, 1148),
  (Jvm.Cond.fieldLink "java/lang/String" 1053 "jdk/internal/util/Preconditions" "SIOOBE_FORMATTER" "Ljava/util/function/BiFunction;", 1215),
  (Jvm.Cond.code yJ3_checkIndex_8e157 cJ3_checkIndex_8e157 3 (some .int), 1419),
  (Jvm.Cond.initialized "jdk/internal/util/Preconditions", 101),
  (Jvm.Cond.methodLink "java/lang/String" 1059 yJ3_checkIndex_8e157, 1417),
  (Jvm.Cond.static yJ3_checkIndex_8e157, 1418),
  (Jvm.Cond.methodLink "java/lang/AbstractStringBuilder" 138 Lib.Math.min.name, 1436),
  (Jvm.Cond.code yJ0_checkIndex_df160 cJ0_checkIndex_df160 2 none, 1416),
  (Jvm.Cond.initialized "java/lang/String", 80),
  (Jvm.Cond.methodLink "java/lang/AbstractStringBuilder" 144 yJ0_checkIndex_df160, 1437),
  (Jvm.Cond.static yJ0_checkIndex_df160, 1415),
  (Jvm.Cond.code yJ5_charAt_5068e cJ5_charAt_5068e 5 (some .char), 1435),
  (Jvm.Cond.methodLink "java/lang/StringBuilder" 329 yJ5_charAt_5068e, 1433),
  (Jvm.Cond.sameMethod "java/lang/AbstractStringBuilder" "java/lang/AbstractStringBuilder" "charAt" "(I)C", 2074),
  (Jvm.Cond.instanceMethod yJ5_charAt_5068e, 1434),
  (Jvm.Cond.fieldLink "java/lang/Integer" 83 "java/lang/Integer" "DigitOnes" "[B", 1285),
  (Jvm.Cond.fieldLink "java/lang/Integer" 87 "java/lang/Integer" "DigitTens" "[B", 1287),
  (Jvm.Cond.code yJ6_stringSize_0f7a4 cJ6_stringSize_0f7a4 4 (some .int), 1281),
  (Jvm.Cond.initialized "java/lang/Integer", 96),
  (Jvm.Cond.methodLink "java/lang/AbstractStringBuilder" 245 yJ6_stringSize_0f7a4, 1279),
  (Jvm.Cond.static yJ6_stringSize_0f7a4, 1280),
  (Jvm.Cond.code yJ6_getChars_ba4f3 cJ6_getChars_ba4f3 7 (some .int), 1284),
  (Jvm.Cond.methodLink "java/lang/AbstractStringBuilder" 248 yJ6_getChars_ba4f3, 1282),
  (Jvm.Cond.static yJ6_getChars_ba4f3, 1283),
  (Jvm.Cond.code yJ5_append_c97b9 cJ5_append_c97b9 4 (some (.object "java/lang/AbstractStringBuilder")), 1278),
  (Jvm.Cond.methodLink "java/lang/StringBuilder" 53 yJ5_append_c97b9, 1276),
  (Jvm.Cond.sameMethod "java/lang/AbstractStringBuilder" "java/lang/AbstractStringBuilder" "append" "(I)Ljava/lang/AbstractStringBuilder;", 2071),
  (Jvm.Cond.instanceMethod yJ5_append_c97b9, 1277),
  (Jvm.Cond.fieldLink "java/lang/String" 38 "java/lang/String" "COMPACT_STRINGS" "Z", 1237),
  (Jvm.Cond.fieldLink "java/lang/String" 15 "java/lang/String" "coder" "B", 1354),
  (Jvm.Cond.fieldLink "java/lang/String" 9 "java/lang/String" "value" "[B", 1353),
  (Jvm.Cond.code yJ0_coder_7d493 cJ0_coder_7d493 1 (some .byte), 1236),
  (Jvm.Cond.methodLink "java/lang/String" 335 yJ0_coder_7d493, 1233),
  (Jvm.Cond.instanceMethod yJ0_coder_7d493, 1234),
  (Jvm.Cond.selects "java/lang/String" yJ0_coder_7d493 yJ0_coder_7d493, 1235),
  (Jvm.Cond.methodLink "java/lang/StringLatin1" 9 yJ0_checkIndex_df160, 1497),
  (Jvm.Cond.code yJ0_isLatin1_aae02 cJ0_isLatin1_aae02 1 (some .boolean), 1493),
  (Jvm.Cond.methodLink "java/lang/String" 492 yJ0_isLatin1_aae02, 1490),
  (Jvm.Cond.instanceMethod yJ0_isLatin1_aae02, 1491),
  (Jvm.Cond.selects "java/lang/String" yJ0_isLatin1_aae02 yJ0_isLatin1_aae02, 1492),
  (Jvm.Cond.code yJ1_charAt_3b067 cJ1_charAt_3b067 2 (some .char), 1496),
  (Jvm.Cond.methodLink "java/lang/String" 495 yJ1_charAt_3b067, 1494),
  (Jvm.Cond.static yJ1_charAt_3b067, 1495),
  (Jvm.Cond.code yJ4_append_cf468 cJ4_append_cf468 2 (some (.object "java/lang/StringBuilder")), 1401),
  (Jvm.Cond.initialized "java/lang/StringBuilder", 79),
  (Jvm.Cond.instanceMethod yJ4_append_cf468, 1399),
  (Jvm.Cond.selects "java/lang/StringBuilder" yJ4_append_cf468 yJ4_append_cf468, 1400),
  (Jvm.Cond.code yJ4_append_bf812 cJ4_append_bf812 2 (some (.object "java/lang/StringBuilder")), 1275),
  (Jvm.Cond.instanceMethod yJ4_append_bf812, 1273),
  (Jvm.Cond.selects "java/lang/StringBuilder" yJ4_append_bf812 yJ4_append_bf812, 1274),
  (Jvm.Cond.code yJ4_length_8abf5 cJ4_length_8abf5 1 (some .int), 1319),
  (Jvm.Cond.instanceMethod yJ4_length_8abf5, 1318),
  (Jvm.Cond.selects "java/lang/StringBuilder" yJ4_length_8abf5 yJ4_length_8abf5, 2073),
  (Jvm.Cond.code yJ4_charAt_5068e cJ4_charAt_5068e 2 (some .char), 1432),
  (Jvm.Cond.instanceMethod yJ4_charAt_5068e, 1430),
  (Jvm.Cond.selects "java/lang/StringBuilder" yJ4_charAt_5068e yJ4_charAt_5068e, 1431),
  (Jvm.Cond.code yJ4_setLength_d00df cJ4_setLength_d00df 2 none, 1146),
  (Jvm.Cond.instanceMethod yJ4_setLength_d00df, 1144),
  (Jvm.Cond.selects "java/lang/StringBuilder" yJ4_setLength_d00df yJ4_setLength_d00df, 1145),
  (Jvm.Cond.code yJ0_length_8abf5 cJ0_length_8abf5 1 (some .int), 1232),
  (Jvm.Cond.instanceMethod yJ0_length_8abf5, 1230),
  (Jvm.Cond.selects "java/lang/String" yJ0_length_8abf5 yJ0_length_8abf5, 1231),
  (Jvm.Cond.code yJ0_charAt_5068e cJ0_charAt_5068e 2 (some .char), 1489),
  (Jvm.Cond.instanceMethod yJ0_charAt_5068e, 1487),
  (Jvm.Cond.selects "java/lang/String" yJ0_charAt_5068e yJ0_charAt_5068e, 1488)]
theorem jwl_ok : jTl jwl := by unfold jTl; decide +kernel
theorem jw_at (k : Nat) {w : Jvm.Cond} {i : Nat} (hk : jwl[k]? = some (w, i)) : w ∈ fT := jTl_at jwl_ok k hk
set_option maxRecDepth 4096 in
theorem jc_isLatin1 {G : fG} {l : Launch} {b q : Nat} {ml n : Int32} {wr : va_W} (hf : l.stackTraces = false) (hGf : fWf G) : jCX G jT1 l yJ5_isLatin1_aae02 (fw0 yJ5_isLatin1_aae02 cJ5_isLatin1_aae02 1 (some .boolean)) { frames := 0, cells := 0, slots := 0, locals := 0 } [.ref b] (jSb b q ml n :: wr) (fun o ws => o = some (.int 1) ∧ ws = jSb b q ml n :: wr) := by
  refine jof (own := RJ5) hf hGf (by decide) rfl (Nat.le_of_ble_eq_true rfl) ?_
  intro p e s m args below meth c ls C hr hl hP hD hS hXs
  have C' := C
  obtain ⟨hx, hb, hml, hown, hts, hlocks, hst, hG, hPr⟩ := C'
  have hK := hPr.1
  refine va_gets hx hb hPr.2.2.2.2.2.2.2.2.1 hS hown (hts _ (jw_at 0 rfl)) (fun _ h9 => h9) (show decode cJ5_isLatin1_aae02 0 = .ok (.getstatic 18, 3) from by decide +kernel) ?_
  refine lv_if_eq (tgt := 17) hx hb (show decode cJ5_isLatin1_aae02 3 = .ok (.ifCond .eq 14, 3) from by decide +kernel) (by decide) (fun h9 => absurd h9 (by decide)) (fun _ => ?_)
  refine lv_aload_n hx hb (show decode cJ5_isLatin1_aae02 6 = .ok (.aload_n 0, 1) from by decide +kernel) rfl (lv_at hl 0 rfl) ?_
  refine va_get (D := G.2.1) (ci := 9) (C := RJ4) (T := TJ4) (N := 4) hx hb hts j_uw hown hK hP 0 rfl rfl 1 (by decide) (hts _ (jw_at 1 rfl)) (fun _ h9 => h9) rfl (show decode cJ5_isLatin1_aae02 7 = .ok (.getfield 22, 3) from by decide +kernel) ?_
  refine lv_if_ne (tgt := 17) hx hb (show decode cJ5_isLatin1_aae02 10 = .ok (.ifCond .ne 7, 3) from by decide +kernel) (by decide) (fun h9 => absurd (rfl) h9) (fun _ => ?_)
  refine lv_iconst (v := 1) hx hb (show decode cJ5_isLatin1_aae02 13 = .ok (.iconst 1, 1) from by decide +kernel) (by decide) ?_
  refine lv_goto (tgt := 18) hx hb (show decode cJ5_isLatin1_aae02 14 = .ok (.goto 4, 3) from by decide +kernel) (by decide) ?_
  refine W.widen (k := 0) (n := 0) (Nat.le_of_ble_eq_true rfl) (Nat.le_of_ble_eq_true rfl) ?_
  exact fW_zret (v := 1) (w := 1) hx hb hr (rfl) (fun t ht hW => ⟨⟨_, _, rfl, ⟨rfl, rfl⟩, by rw [ht]; exact hP, hD⟩, hS.F ht⟩) hS.2.2 (show decode cJ5_isLatin1_aae02 18 = .ok (.ireturn, 1) from by decide +kernel) hlocks
set_option maxRecDepth 4096 in
theorem jc_canEncode {G : fG} {l : Launch} {k : Nat} {w : va_W} (hk : k < 128) (hf : l.stackTraces = false) (hGf : fWf G) : jCX G jT1 l yJ1_canEncode_fc78d (fw0 yJ1_canEncode_fc78d cJ1_canEncode_fc78d 1 (some .boolean)) { frames := 0, cells := 0, slots := 0, locals := 0 } [.int (nI k)] w (fun o ws => o = some (.int 1) ∧ ws = w) := by
  refine jof (own := RJ1) hf hGf (by decide) rfl (Nat.le_of_ble_eq_true rfl) ?_
  intro p e s m args below meth c ls C hr hl hP hD hS hXs
  have C' := C
  obtain ⟨hx, hb, hml, hown, hts, hlocks, hst, hG, hPr⟩ := C'
  have hK := hPr.1
  refine lv_iload_n hx hb (show decode cJ1_canEncode_fc78d 0 = .ok (.iload_n 0, 1) from by decide +kernel) rfl (lv_at hl 0 rfl) ?_
  refine lv_sipush (v := 255) hx hb (show decode cJ1_canEncode_fc78d 1 = .ok (.sipush 255, 3) from by decide +kernel) (by decide) ?_
  refine lv_icmp_gt (tgt := 11) hx hb (show decode cJ1_canEncode_fc78d 4 = .ok (.if_icmp .gt 7, 3) from by decide +kernel) (by decide) (fun h9 => absurd h9 (show ¬ nI 255 < nI _ from nI_nlt (by omega) (by decide))) (fun _ => ?_)
  refine lv_iconst (v := 1) hx hb (show decode cJ1_canEncode_fc78d 7 = .ok (.iconst 1, 1) from by decide +kernel) (by decide) ?_
  refine lv_goto (tgt := 12) hx hb (show decode cJ1_canEncode_fc78d 8 = .ok (.goto 4, 3) from by decide +kernel) (by decide) ?_
  refine W.widen (k := 0) (n := 0) (Nat.le_of_ble_eq_true rfl) (Nat.le_of_ble_eq_true rfl) ?_
  exact fW_zret (v := 1) (w := 1) hx hb hr (rfl) (fun t ht hW => ⟨⟨_, _, rfl, ⟨rfl, rfl⟩, by rw [ht]; exact hP, hD⟩, hS.F ht⟩) hS.2.2 (show decode cJ1_canEncode_fc78d 12 = .ok (.ireturn, 1) from by decide +kernel) hlocks
set_option maxRecDepth 4096 in
theorem jc_newLength {G : fG} {l : Launch} {u v z : Nat} {w : va_W} (hm : 0 < u + v) (hm1 : u < 1000) (hb1 : v < 1000) (hc1 : z < 1000) (hf : l.stackTraces = false) (hGf : fWf G) : jCX G jT1 l yJ8_newLength_cabcc (fw0 yJ8_newLength_cabcc cJ8_newLength_cabcc 4 (some .int)) { frames := 1, cells := 0, slots := 0, locals := 40 } [.int (nI u), .int (nI v), .int (nI z)] w (fun o ws => o = some (.int (nI (u + (if v < z then z else v)))) ∧ ws = w) := by
  refine jof (own := RJ8) hf hGf (by decide) rfl (Nat.le_of_ble_eq_true rfl) ?_
  intro p e s m args below meth c ls C hr hl hP hD hS hXs
  have C' := C
  obtain ⟨hx, hb, hml, hown, hts, hlocks, hst, hG, hPr⟩ := C'
  have hK := hPr.1
  refine lv_iload_n hx hb (show decode cJ8_newLength_cabcc 0 = .ok (.iload_n 0, 1) from by decide +kernel) rfl (lv_at hl 0 rfl) ?_
  refine lv_iload_n hx hb (show decode cJ8_newLength_cabcc 1 = .ok (.iload_n 1, 1) from by decide +kernel) rfl (lv_at hl 1 rfl) ?_
  refine lv_iload_n hx hb (show decode cJ8_newLength_cabcc 2 = .ok (.iload_n 2, 1) from by decide +kernel) rfl (lv_at hl 2 rfl) ?_
  refine va_mmax hx hb (hml.trans hl.1.symm) hown (hts _ (jw_at 2 rfl)) (hts _ (jw_at 3 rfl)) (hts _ (jw_at 4 rfl)) (hts _ (jw_at 5 rfl)) (Nat.le_of_ble_eq_true rfl) (Nat.le_of_ble_eq_true rfl) (Nat.le_of_ble_eq_true rfl) (Nat.le_of_ble_eq_true rfl) (show decode cJ8_newLength_cabcc 3 = .ok (.invokestatic 194, 3) from by decide +kernel) ?_
  have hmx : nI u + (if nI v < nI z then nI z else nI v) = nI (u + (if v < z then z else v)) := by rw [j_ifn (by omega) (by omega), nI_add]
  refine lv_iadd hx hb (show decode cJ8_newLength_cabcc 6 = .ok (.iadd, 1) from by decide +kernel) ?_
  refine j_top (x' := nI (u + (if v < z then z else v))) (hmx) ?_
  refine lv_istore_n hx hb (show decode cJ8_newLength_cabcc 7 = .ok (.istore_n 3, 1) from by decide +kernel) rfl hl (by decide) rfl (fun ls hl => ?_)
  refine lv_iconst (v := 0) hx hb (show decode cJ8_newLength_cabcc 8 = .ok (.iconst 0, 1) from by decide +kernel) (by decide) ?_
  refine lv_iload_n hx hb (show decode cJ8_newLength_cabcc 9 = .ok (.iload_n 3, 1) from by decide +kernel) rfl (lv_at hl 0 rfl) ?_
  have hmy : 0 < u + (if v < z then z else v) ∧ u + (if v < z then z else v) < 2000 := by split <;> omega
  refine lv_icmp_ge (tgt := 21) hx hb (show decode cJ8_newLength_cabcc 10 = .ok (.if_icmp .ge 11, 3) from by decide +kernel) (by decide) (fun h9 => absurd h9 (nI_nle hmy.1 (by omega))) (fun _ => ?_)
  refine lv_iload_n hx hb (show decode cJ8_newLength_cabcc 13 = .ok (.iload_n 3, 1) from by decide +kernel) rfl (lv_at hl 0 rfl) ?_
  refine lv_ldc hx hb hown (hts _ (jw_at 6 rfl)) (show decode cJ8_newLength_cabcc 14 = .ok (.ldc 200, 2) from by decide +kernel) ?_
  refine lv_icmp_gt (tgt := 21) hx hb (show decode cJ8_newLength_cabcc 16 = .ok (.if_icmp .gt 5, 3) from by decide +kernel) (by decide) (fun h9 => absurd h9 (show ¬ nI 2147483639 < nI _ from nI_nlt (by omega) (by decide))) (fun _ => ?_)
  refine lv_iload_n hx hb (show decode cJ8_newLength_cabcc 19 = .ok (.iload_n 3, 1) from by decide +kernel) rfl (lv_at hl 0 rfl) ?_
  refine W.widen (k := 0) (n := 0) (Nat.le_of_ble_eq_true rfl) (Nat.le_of_ble_eq_true rfl) ?_
  exact W.iret hx hb hr (fun t ht hW => ⟨⟨_, _, rfl, ⟨rfl, rfl⟩, by rw [ht]; exact hP, hD⟩, hS.F ht⟩) hS.2.2 (show decode cJ8_newLength_cabcc 20 = .ok (.ireturn, 1) from by decide +kernel) hlocks
set_option maxRecDepth 4096 in
theorem jc_newCapacity {G : fG} {l : Launch} {b q mm k : Nat} {ml n : Int32} {a : Nat → Int32} {wr : va_W} (hk : mm < k) (hk1 : k < 500) (hf : l.stackTraces = false) (hGf : fWf G) : jCX G jT1 l yJ5_newCapacity_0f7a4 (fw0 yJ5_newCapacity_0f7a4 cJ5_newCapacity_0f7a4 6 (some .int)) { frames := 2, cells := 0, slots := 0, locals := 80 } [.ref b, .int (nI k)] (jSb b q ml n :: jAr G q mm a :: wr) (fun o ws => o = some (.int (nI (mm + (if k - mm < mm + 2 then mm + 2 else k - mm)))) ∧ ws = jSb b q ml n :: jAr G q mm a :: wr) := by
  refine jof (own := RJ5) hf hGf (by decide) rfl (Nat.le_of_ble_eq_true rfl) ?_
  intro p e s m args below meth c ls C hr hl hP hD hS hXs
  have C' := C
  obtain ⟨hx, hb, hml, hown, hts, hlocks, hst, hG, hPr⟩ := C'
  have hK := hPr.1
  refine lv_aload_n hx hb (show decode cJ5_newCapacity_0f7a4 0 = .ok (.aload_n 0, 1) from by decide +kernel) rfl (lv_at hl 0 rfl) ?_
  refine va_get (D := G.2.1) (ci := 9) (C := RJ4) (T := TJ4) (N := 4) hx hb hts j_uw hown hK hP 0 rfl rfl 0 (by decide) (hts _ (jw_at 7 rfl)) (fun _ h9 => h9) rfl (show decode cJ5_newCapacity_0f7a4 1 = .ok (.getfield 15, 3) from by decide +kernel) ?_
  refine va_alen hx hb hK hP 1 8 rfl (ftys_at G 8 (by decide)) rfl (show decode cJ5_newCapacity_0f7a4 4 = .ok (.arraylength, 1) from by decide +kernel) ?_
  refine lv_istore_n hx hb (show decode cJ5_newCapacity_0f7a4 5 = .ok (.istore_n 2, 1) from by decide +kernel) rfl hl (by decide) rfl (fun ls hl => ?_)
  refine lv_iload_n hx hb (show decode cJ5_newCapacity_0f7a4 6 = .ok (.iload_n 1, 1) from by decide +kernel) rfl (lv_at hl 2 rfl) ?_
  refine lv_aload_n hx hb (show decode cJ5_newCapacity_0f7a4 7 = .ok (.aload_n 0, 1) from by decide +kernel) rfl (lv_at hl 1 rfl) ?_
  refine va_get (D := G.2.1) (ci := 9) (C := RJ4) (T := TJ4) (N := 4) hx hb hts j_uw hown hK hP 0 rfl rfl 1 (by decide) (hts _ (jw_at 1 rfl)) (fun _ h9 => h9) rfl (show decode cJ5_newCapacity_0f7a4 8 = .ok (.getfield 22, 3) from by decide +kernel) ?_
  refine lv_ishl hx hb (show decode cJ5_newCapacity_0f7a4 11 = .ok (.ishl, 1) from by decide +kernel) ?_
  refine j_top (x' := nI k) (sb_shl0 _) ?_
  refine lv_istore_n hx hb (show decode cJ5_newCapacity_0f7a4 12 = .ok (.istore_n 3, 1) from by decide +kernel) rfl hl (by decide) rfl (fun ls hl => ?_)
  refine lv_iload_n hx hb (show decode cJ5_newCapacity_0f7a4 13 = .ok (.iload_n 3, 1) from by decide +kernel) rfl (lv_at hl 0 rfl) ?_
  refine lv_iload_n hx hb (show decode cJ5_newCapacity_0f7a4 14 = .ok (.iload_n 2, 1) from by decide +kernel) rfl (lv_at hl 1 rfl) ?_
  refine lv_isub hx hb (show decode cJ5_newCapacity_0f7a4 15 = .ok (.isub, 1) from by decide +kernel) ?_
  refine j_top (x' := nI (k - mm)) (pk_sub (by omega)) ?_
  refine lv_istore hx hb (show decode cJ5_newCapacity_0f7a4 16 = .ok (.istore 4, 2) from by decide +kernel) hl (by decide) rfl (fun ls hl => ?_)
  refine lv_iload_n hx hb (show decode cJ5_newCapacity_0f7a4 18 = .ok (.iload_n 2, 1) from by decide +kernel) rfl (lv_at hl 2 rfl) ?_
  refine lv_iload hx hb (show decode cJ5_newCapacity_0f7a4 19 = .ok (.iload 4, 2) from by decide +kernel) (lv_at hl 0 rfl) ?_
  refine lv_iload_n hx hb (show decode cJ5_newCapacity_0f7a4 21 = .ok (.iload_n 2, 1) from by decide +kernel) rfl (lv_at hl 2 rfl) ?_
  refine lv_iconst (v := 2) hx hb (show decode cJ5_newCapacity_0f7a4 22 = .ok (.iconst 2, 1) from by decide +kernel) (by decide) ?_
  refine lv_aload_n hx hb (show decode cJ5_newCapacity_0f7a4 23 = .ok (.aload_n 0, 1) from by decide +kernel) rfl (lv_at hl 3 rfl) ?_
  refine va_get (D := G.2.1) (ci := 9) (C := RJ4) (T := TJ4) (N := 4) hx hb hts j_uw hown hK hP 0 rfl rfl 1 (by decide) (hts _ (jw_at 1 rfl)) (fun _ h9 => h9) rfl (show decode cJ5_newCapacity_0f7a4 24 = .ok (.getfield 22, 3) from by decide +kernel) ?_
  refine lv_ishl hx hb (show decode cJ5_newCapacity_0f7a4 27 = .ok (.ishl, 1) from by decide +kernel) ?_
  refine j_top (x' := 2) (sb_shl0 _) ?_
  refine lv_iadd hx hb (show decode cJ5_newCapacity_0f7a4 28 = .ok (.iadd, 1) from by decide +kernel) ?_
  refine j_top (x' := nI (mm + 2)) (nI_add mm 2) ?_
  refine j_callS (n := 3) C (jc_newLength (u := mm) (v := k - mm) (z := mm + 2) (w := jSb b q ml n :: jAr G q mm a :: wr) (by omega) (by omega) (by omega) (by omega) hf hGf) ⟨fun _ _ _ _ h => h, fun _ _ _ => trivial⟩ ⟨(jw_at 8 rfl), (jw_at 9 rfl), (jw_at 10 rfl), (jw_at 11 rfl)⟩ ⟨by decide, by decide, by decide +kernel⟩ ⟨by decide, by decide⟩ hl.1 hP hD hS rfl (Nat.le_of_ble_eq_true rfl) (show decode cJ5_newCapacity_0f7a4 29 = .ok (.invokestatic 114, 3) from by decide +kernel) ⟨Nat.le_of_ble_eq_true rfl, Nat.le_of_ble_eq_true rfl⟩ (fun v ws' H locs hv hP hD hS => ?_)
  obtain ⟨rfl, rfl⟩ := hv
  have hmy : 0 < mm + (if k - mm < mm + 2 then mm + 2 else k - mm) ∧ mm + (if k - mm < mm + 2 then mm + 2 else k - mm) < 3000 := by split <;> omega
  refine lv_istore hx hb (show decode cJ5_newCapacity_0f7a4 32 = .ok (.istore 5, 2) from by decide +kernel) hl (by decide) rfl (fun ls hl => ?_)
  refine lv_iload hx hb (show decode cJ5_newCapacity_0f7a4 34 = .ok (.iload 5, 2) from by decide +kernel) (lv_at hl 0 rfl) ?_
  refine lv_ldc hx hb hown (hts _ (jw_at 12 rfl)) (show decode cJ5_newCapacity_0f7a4 36 = .ok (.ldc 39, 2) from by decide +kernel) ?_
  refine lv_icmp_ne (tgt := 51) hx hb (show decode cJ5_newCapacity_0f7a4 38 = .ok (.if_icmp .ne 13, 3) from by decide +kernel) (by decide) (fun _ => ?_) (fun h9 => absurd h9 (show ¬ nI _ = nI 2147483647 from j_ne (by omega) (by decide) (by omega)))
  refine lv_iload hx hb (show decode cJ5_newCapacity_0f7a4 51 = .ok (.iload 5, 2) from by decide +kernel) (lv_at hl 0 rfl) ?_
  refine lv_aload_n hx hb (show decode cJ5_newCapacity_0f7a4 53 = .ok (.aload_n 0, 1) from by decide +kernel) rfl (lv_at hl 4 rfl) ?_
  refine va_get (D := G.2.1) (ci := 9) (C := RJ4) (T := TJ4) (N := 4) hx hb hts j_uw hown hK hP 0 rfl rfl 1 (by decide) (hts _ (jw_at 1 rfl)) (fun _ h9 => h9) rfl (show decode cJ5_newCapacity_0f7a4 54 = .ok (.getfield 22, 3) from by decide +kernel) ?_
  refine lv_ishr hx hb (show decode cJ5_newCapacity_0f7a4 57 = .ok (.ishr, 1) from by decide +kernel) ?_
  refine j_top (x' := nI (mm + (if k - mm < mm + 2 then mm + 2 else k - mm))) (sb_shr0 _) ?_
  refine W.widen (k := 0) (n := 0) (Nat.le_of_ble_eq_true rfl) (Nat.le_of_ble_eq_true rfl) ?_
  exact W.iret hx hb hr (fun t ht hW => ⟨⟨_, _, rfl, ⟨rfl, rfl⟩, by rw [ht]; exact hP, hD⟩, hS.F ht⟩) hS.2.2 (show decode cJ5_newCapacity_0f7a4 58 = .ok (.ireturn, 1) from by decide +kernel) hlocks
set_option maxRecDepth 4096 in
theorem jc_copyOf {G : fG} {l : Launch} {q mm k : Nat} {a : Nat → Int32} {wr : va_W} (hk : mm < k) (hk1 : k ≤ 200) (hfa : sb_Fit a) (hf : l.stackTraces = false) (hGf : fWf G) : jCX G jT1 l yJ7_copyOf_9075b (fw0 yJ7_copyOf_9075b cJ7_copyOf_9075b 3 (some (.array .byte))) { frames := 1, cells := 1, slots := 200, locals := 100 } [.ref q, .int (nI k)] (jAr G q mm a :: wr) (fun o ws => ∃ q2 : Nat, o = some (.ref q2) ∧ ws = jAr G q2 k (va_cpy a (fun _ => 0) 0 0 mm) :: jAr G q mm a :: wr) := by
  refine jof (own := RJ7) hf hGf (by decide) rfl (Nat.le_of_ble_eq_true rfl) ?_
  intro p e s m args below meth c ls C hr hl hP hD hS hXs
  have C' := C
  obtain ⟨hx, hb, hml, hown, hts, hlocks, hst, hG, hPr⟩ := C'
  have hK := hPr.1
  refine lv_iload_n hx hb (show decode cJ7_copyOf_9075b 0 = .ok (.iload_n 1, 1) from by decide +kernel) rfl (lv_at hl 1 rfl) ?_
  refine lv_aload_n hx hb (show decode cJ7_copyOf_9075b 1 = .ok (.aload_n 0, 1) from by decide +kernel) rfl (lv_at hl 0 rfl) ?_
  refine va_alen hx hb hK hP 0 8 rfl (ftys_at G 8 (by decide)) rfl (show decode cJ7_copyOf_9075b 2 = .ok (.arraylength, 1) from by decide +kernel) ?_
  refine lv_icmp_ne (tgt := 14) hx hb (show decode cJ7_copyOf_9075b 3 = .ok (.if_icmp .ne 11, 3) from by decide +kernel) (by decide) (fun _ => ?_) (fun h9 => absurd h9 (show ¬ nI k = nI mm from j_ne (by omega) (by omega) (by omega)))
  refine lv_iload_n hx hb (show decode cJ7_copyOf_9075b 14 = .ok (.iload_n 1, 1) from by decide +kernel) rfl (lv_at hl 1 rfl) ?_
  refine j_newB (N := k) C (jw_at 13 rfl) hP hD hS (nI_pos (by omega)) (nI_clamp (by omega)) hk1 (Nat.le_of_ble_eq_true rfl) (Nat.le_of_ble_eq_true rfl) (show decode cJ7_copyOf_9075b 15 = .ok (.newarray .byte, 2) from by decide +kernel) (fun q2 H hP hD hS => ?_)
  refine lv_astore_n hx hb (show decode cJ7_copyOf_9075b 17 = .ok (.astore_n 2, 1) from by decide +kernel) rfl hl (by decide) rfl (fun ls hl => ?_)
  refine lv_aload_n hx hb (show decode cJ7_copyOf_9075b 18 = .ok (.aload_n 0, 1) from by decide +kernel) rfl (lv_at hl 1 rfl) ?_
  refine lv_iconst (v := 0) hx hb (show decode cJ7_copyOf_9075b 19 = .ok (.iconst 0, 1) from by decide +kernel) (by decide) ?_
  refine lv_aload_n hx hb (show decode cJ7_copyOf_9075b 20 = .ok (.aload_n 2, 1) from by decide +kernel) rfl (lv_at hl 0 rfl) ?_
  refine lv_iconst (v := 0) hx hb (show decode cJ7_copyOf_9075b 21 = .ok (.iconst 0, 1) from by decide +kernel) (by decide) ?_
  refine lv_aload_n hx hb (show decode cJ7_copyOf_9075b 22 = .ok (.aload_n 0, 1) from by decide +kernel) rfl (lv_at hl 1 rfl) ?_
  refine va_alen hx hb hK hP 1 8 rfl (ftys_at G 8 (by decide)) rfl (show decode cJ7_copyOf_9075b 23 = .ok (.arraylength, 1) from by decide +kernel) ?_
  refine lv_iload_n hx hb (show decode cJ7_copyOf_9075b 24 = .ok (.iload_n 1, 1) from by decide +kernel) rfl (lv_at hl 2 rfl) ?_
  refine va_mmin hx hb (hml.trans hl.1.symm) hown (hts _ (jw_at 14 rfl)) (hts _ (jw_at 15 rfl)) (hts _ (jw_at 4 rfl)) (hts _ (jw_at 16 rfl)) (Nat.le_of_ble_eq_true rfl) (Nat.le_of_ble_eq_true rfl) (Nat.le_of_ble_eq_true rfl) (Nat.le_of_ble_eq_true rfl) (show decode cJ7_copyOf_9075b 25 = .ok (.invokestatic 304, 3) from by decide +kernel) ?_
  refine j_top (x' := nI mm) (show (if nI k < nI mm then nI k else nI mm) = nI mm from if_neg (nI_nlt (by omega) (by omega))) ?_
  refine va_copyi hx hb (hml.trans hl.1.symm) hown (hts _ (jw_at 17 rfl)) (hts _ (jw_at 18 rfl)) (hts _ (jw_at 19 rfl)) (hts _ (jw_at 20 rfl)) hK hP hD hS 1 0 8 8 rfl rfl (ftys_at G 8 (by decide)) (ftys_at G 8 (by decide)) rfl (by decide) (by decide) (nI_pos (by omega)) (by rw [sb_cl0, nI_clamp (by omega)]; omega) (by rw [sb_cl0, nI_clamp (by omega)]; omega) (fun i _ => hfa _) (Nat.le_of_ble_eq_true rfl) (j_nf (Nat.le_of_ble_eq_true rfl) (Nat.le_of_ble_eq_true rfl)) (show decode cJ7_copyOf_9075b 28 = .ok (.invokestatic 150, 3) from by decide +kernel) (fun H locs hP hD hS => ?_)
  rw [nI_clamp (by omega), sb_cl0] at hP hD
  refine lv_aload_n hx hb (show decode cJ7_copyOf_9075b 31 = .ok (.aload_n 2, 1) from by decide +kernel) rfl (lv_at hl 0 rfl) ?_
  refine W.widen (k := 1) (n := 200) (Nat.le_of_ble_eq_true rfl) (Nat.le_of_ble_eq_true rfl) ?_
  exact W.aret hx hb hr (Or.inr ⟨_, rfl⟩) (Or.inr ⟨_, rfl⟩) (fun t ht hW => ⟨⟨_, _, rfl, ⟨q2, rfl, rfl⟩, by rw [ht]; exact hP, hD⟩, hS.F ht⟩) hS.2.2 (show decode cJ7_copyOf_9075b 32 = .ok (.areturn, 1) from by decide +kernel) hlocks
set_option maxRecDepth 4096 in
theorem jc_eciA {G : fG} {l : Launch} {b q mm k : Nat} {ml n : Int32} {a : Nat → Int32} {wr : va_W} (hm : mm ≤ 200) (hk : k ≤ 95) (hfa : sb_Fit a) (h : k ≤ mm) (hf : l.stackTraces = false) (hGf : fWf G) : jCX G jT1 l yJ5_ensureCapacityInternal_d00df (fw0 yJ5_ensureCapacityInternal_d00df cJ5_ensureCapacityInternal_d00df 3 none) { frames := 3, cells := 1, slots := 200, locals := 140 } [.ref b, .int (nI k)] (jSb b q ml n :: jAr G q mm a :: wr) (fun o ws => o = none ∧ ∃ (q' m' : Nat) (a' : Nat → Int32), ws = jSb b q' ml n :: jAr G q' m' a' :: wr ∧ k ≤ m' ∧ m' ≤ 200 ∧ mm ≤ m' ∧ sb_Fit a' ∧ ∀ j, j < mm → a' j = a j) := by
  refine jof (own := RJ5) hf hGf (by decide) rfl (Nat.le_of_ble_eq_true rfl) ?_
  intro p e s m args below meth c ls C hr hl hP hD hS hXs
  have C' := C
  obtain ⟨hx, hb, hml, hown, hts, hlocks, hst, hG, hPr⟩ := C'
  have hK := hPr.1
  refine lv_aload_n hx hb (show decode cJ5_ensureCapacityInternal_d00df 0 = .ok (.aload_n 0, 1) from by decide +kernel) rfl (lv_at hl 0 rfl) ?_
  refine va_get (D := G.2.1) (ci := 9) (C := RJ4) (T := TJ4) (N := 4) hx hb hts j_uw hown hK hP 0 rfl rfl 0 (by decide) (hts _ (jw_at 7 rfl)) (fun _ h9 => h9) rfl (show decode cJ5_ensureCapacityInternal_d00df 1 = .ok (.getfield 15, 3) from by decide +kernel) ?_
  refine va_alen hx hb hK hP 1 8 rfl (ftys_at G 8 (by decide)) rfl (show decode cJ5_ensureCapacityInternal_d00df 4 = .ok (.arraylength, 1) from by decide +kernel) ?_
  refine lv_aload_n hx hb (show decode cJ5_ensureCapacityInternal_d00df 5 = .ok (.aload_n 0, 1) from by decide +kernel) rfl (lv_at hl 0 rfl) ?_
  refine va_get (D := G.2.1) (ci := 9) (C := RJ4) (T := TJ4) (N := 4) hx hb hts j_uw hown hK hP 0 rfl rfl 1 (by decide) (hts _ (jw_at 1 rfl)) (fun _ h9 => h9) rfl (show decode cJ5_ensureCapacityInternal_d00df 6 = .ok (.getfield 22, 3) from by decide +kernel) ?_
  refine lv_ishr hx hb (show decode cJ5_ensureCapacityInternal_d00df 9 = .ok (.ishr, 1) from by decide +kernel) ?_
  refine j_top (x' := nI mm) (sb_shr0 _) ?_
  refine lv_istore_n hx hb (show decode cJ5_ensureCapacityInternal_d00df 10 = .ok (.istore_n 2, 1) from by decide +kernel) rfl hl (by decide) rfl (fun ls hl => ?_)
  refine lv_iload_n hx hb (show decode cJ5_ensureCapacityInternal_d00df 11 = .ok (.iload_n 1, 1) from by decide +kernel) rfl (lv_at hl 2 rfl) ?_
  refine lv_iload_n hx hb (show decode cJ5_ensureCapacityInternal_d00df 12 = .ok (.iload_n 2, 1) from by decide +kernel) rfl (lv_at hl 0 rfl) ?_
  refine lv_isub hx hb (show decode cJ5_ensureCapacityInternal_d00df 13 = .ok (.isub, 1) from by decide +kernel) ?_
  refine lv_if_le (tgt := 38) hx hb (show decode cJ5_ensureCapacityInternal_d00df 14 = .ok (.ifCond .le 24, 3) from by decide +kernel) (by decide) (fun _ => ?_) (fun h9 => absurd (j_subT h (by omega) (by omega)) h9)
  refine W.widen (k := 1) (n := 200) (Nat.le_of_ble_eq_true rfl) (Nat.le_of_ble_eq_true rfl) ?_
  exact W.vret hx hb hr (fun t ht hW => ⟨⟨_, _, rfl, ⟨rfl, q, mm, a, rfl, h, hm, Nat.le_refl _, hfa, fun _ _ => rfl⟩, by rw [ht]; exact hP, hD⟩, hS.F ht⟩) hS.2.2 (show decode cJ5_ensureCapacityInternal_d00df 38 = .ok (.return_, 1) from by decide +kernel) hlocks
set_option maxRecDepth 4096 in
theorem jc_eciZ {G : fG} {l : Launch} {b q mm k : Nat} {ml n : Int32} {a : Nat → Int32} {wr : va_W} (hm : mm ≤ 200) (hk : k ≤ 95) (hfa : sb_Fit a) (h : k ≤ mm) (hf : l.stackTraces = false) (hGf : fWf G) : jCX G jT1 l yJ5_ensureCapacityInternal_d00df (fw0 yJ5_ensureCapacityInternal_d00df cJ5_ensureCapacityInternal_d00df 3 none) { frames := 0, cells := 0, slots := 0, locals := 0 } [.ref b, .int (nI k)] (jSb b q ml n :: jAr G q mm a :: wr) (fun o ws => o = none ∧ ∃ (q' m' : Nat) (a' : Nat → Int32), ws = jSb b q' ml n :: jAr G q' m' a' :: wr ∧ k ≤ m' ∧ m' ≤ 200 ∧ mm ≤ m' ∧ sb_Fit a' ∧ ∀ j, j < mm → a' j = a j) := by
  refine jof (own := RJ5) hf hGf (by decide) rfl (Nat.le_of_ble_eq_true rfl) ?_
  intro p e s m args below meth c ls C hr hl hP hD hS hXs
  have C' := C
  obtain ⟨hx, hb, hml, hown, hts, hlocks, hst, hG, hPr⟩ := C'
  have hK := hPr.1
  refine lv_aload_n hx hb (show decode cJ5_ensureCapacityInternal_d00df 0 = .ok (.aload_n 0, 1) from by decide +kernel) rfl (lv_at hl 0 rfl) ?_
  refine va_get (D := G.2.1) (ci := 9) (C := RJ4) (T := TJ4) (N := 4) hx hb hts j_uw hown hK hP 0 rfl rfl 0 (by decide) (hts _ (jw_at 7 rfl)) (fun _ h9 => h9) rfl (show decode cJ5_ensureCapacityInternal_d00df 1 = .ok (.getfield 15, 3) from by decide +kernel) ?_
  refine va_alen hx hb hK hP 1 8 rfl (ftys_at G 8 (by decide)) rfl (show decode cJ5_ensureCapacityInternal_d00df 4 = .ok (.arraylength, 1) from by decide +kernel) ?_
  refine lv_aload_n hx hb (show decode cJ5_ensureCapacityInternal_d00df 5 = .ok (.aload_n 0, 1) from by decide +kernel) rfl (lv_at hl 0 rfl) ?_
  refine va_get (D := G.2.1) (ci := 9) (C := RJ4) (T := TJ4) (N := 4) hx hb hts j_uw hown hK hP 0 rfl rfl 1 (by decide) (hts _ (jw_at 1 rfl)) (fun _ h9 => h9) rfl (show decode cJ5_ensureCapacityInternal_d00df 6 = .ok (.getfield 22, 3) from by decide +kernel) ?_
  refine lv_ishr hx hb (show decode cJ5_ensureCapacityInternal_d00df 9 = .ok (.ishr, 1) from by decide +kernel) ?_
  refine j_top (x' := nI mm) (sb_shr0 _) ?_
  refine lv_istore_n hx hb (show decode cJ5_ensureCapacityInternal_d00df 10 = .ok (.istore_n 2, 1) from by decide +kernel) rfl hl (by decide) rfl (fun ls hl => ?_)
  refine lv_iload_n hx hb (show decode cJ5_ensureCapacityInternal_d00df 11 = .ok (.iload_n 1, 1) from by decide +kernel) rfl (lv_at hl 2 rfl) ?_
  refine lv_iload_n hx hb (show decode cJ5_ensureCapacityInternal_d00df 12 = .ok (.iload_n 2, 1) from by decide +kernel) rfl (lv_at hl 0 rfl) ?_
  refine lv_isub hx hb (show decode cJ5_ensureCapacityInternal_d00df 13 = .ok (.isub, 1) from by decide +kernel) ?_
  refine lv_if_le (tgt := 38) hx hb (show decode cJ5_ensureCapacityInternal_d00df 14 = .ok (.ifCond .le 24, 3) from by decide +kernel) (by decide) (fun _ => ?_) (fun h9 => absurd (j_subT h (by omega) (by omega)) h9)
  refine W.widen (k := 0) (n := 0) (Nat.le_of_ble_eq_true rfl) (Nat.le_of_ble_eq_true rfl) ?_
  exact W.vret hx hb hr (fun t ht hW => ⟨⟨_, _, rfl, ⟨rfl, q, mm, a, rfl, h, hm, Nat.le_refl _, hfa, fun _ _ => rfl⟩, by rw [ht]; exact hP, hD⟩, hS.F ht⟩) hS.2.2 (show decode cJ5_ensureCapacityInternal_d00df 38 = .ok (.return_, 1) from by decide +kernel) hlocks
set_option maxRecDepth 4096 in
theorem jc_eciB {G : fG} {l : Launch} {b q mm k : Nat} {ml n : Int32} {a : Nat → Int32} {wr : va_W} (hm : mm ≤ 200) (hk : k ≤ 95) (hfa : sb_Fit a) (h : mm < k) (hf : l.stackTraces = false) (hGf : fWf G) : jCX G jT1 l yJ5_ensureCapacityInternal_d00df (fw0 yJ5_ensureCapacityInternal_d00df cJ5_ensureCapacityInternal_d00df 3 none) { frames := 3, cells := 1, slots := 200, locals := 140 } [.ref b, .int (nI k)] (jSb b q ml n :: jAr G q mm a :: wr) (fun o ws => o = none ∧ ∃ (q' m' : Nat) (a' : Nat → Int32), ws = jSb b q' ml n :: jAr G q' m' a' :: wr ∧ k ≤ m' ∧ m' ≤ 200 ∧ mm ≤ m' ∧ sb_Fit a' ∧ ∀ j, j < mm → a' j = a j) := by
  refine jof (own := RJ5) hf hGf (by decide) rfl (Nat.le_of_ble_eq_true rfl) ?_
  intro p e s m args below meth c ls C hr hl hP hD hS hXs
  have C' := C
  obtain ⟨hx, hb, hml, hown, hts, hlocks, hst, hG, hPr⟩ := C'
  have hK := hPr.1
  refine lv_aload_n hx hb (show decode cJ5_ensureCapacityInternal_d00df 0 = .ok (.aload_n 0, 1) from by decide +kernel) rfl (lv_at hl 0 rfl) ?_
  refine va_get (D := G.2.1) (ci := 9) (C := RJ4) (T := TJ4) (N := 4) hx hb hts j_uw hown hK hP 0 rfl rfl 0 (by decide) (hts _ (jw_at 7 rfl)) (fun _ h9 => h9) rfl (show decode cJ5_ensureCapacityInternal_d00df 1 = .ok (.getfield 15, 3) from by decide +kernel) ?_
  refine va_alen hx hb hK hP 1 8 rfl (ftys_at G 8 (by decide)) rfl (show decode cJ5_ensureCapacityInternal_d00df 4 = .ok (.arraylength, 1) from by decide +kernel) ?_
  refine lv_aload_n hx hb (show decode cJ5_ensureCapacityInternal_d00df 5 = .ok (.aload_n 0, 1) from by decide +kernel) rfl (lv_at hl 0 rfl) ?_
  refine va_get (D := G.2.1) (ci := 9) (C := RJ4) (T := TJ4) (N := 4) hx hb hts j_uw hown hK hP 0 rfl rfl 1 (by decide) (hts _ (jw_at 1 rfl)) (fun _ h9 => h9) rfl (show decode cJ5_ensureCapacityInternal_d00df 6 = .ok (.getfield 22, 3) from by decide +kernel) ?_
  refine lv_ishr hx hb (show decode cJ5_ensureCapacityInternal_d00df 9 = .ok (.ishr, 1) from by decide +kernel) ?_
  refine j_top (x' := nI mm) (sb_shr0 _) ?_
  refine lv_istore_n hx hb (show decode cJ5_ensureCapacityInternal_d00df 10 = .ok (.istore_n 2, 1) from by decide +kernel) rfl hl (by decide) rfl (fun ls hl => ?_)
  refine lv_iload_n hx hb (show decode cJ5_ensureCapacityInternal_d00df 11 = .ok (.iload_n 1, 1) from by decide +kernel) rfl (lv_at hl 2 rfl) ?_
  refine lv_iload_n hx hb (show decode cJ5_ensureCapacityInternal_d00df 12 = .ok (.iload_n 2, 1) from by decide +kernel) rfl (lv_at hl 0 rfl) ?_
  refine lv_isub hx hb (show decode cJ5_ensureCapacityInternal_d00df 13 = .ok (.isub, 1) from by decide +kernel) ?_
  refine lv_if_le (tgt := 38) hx hb (show decode cJ5_ensureCapacityInternal_d00df 14 = .ok (.ifCond .le 24, 3) from by decide +kernel) (by decide) (fun h9 => absurd h9 (j_subF h (by omega))) (fun _ => ?_)
  refine lv_aload_n hx hb (show decode cJ5_ensureCapacityInternal_d00df 17 = .ok (.aload_n 0, 1) from by decide +kernel) rfl (lv_at hl 1 rfl) ?_
  refine lv_aload_n hx hb (show decode cJ5_ensureCapacityInternal_d00df 18 = .ok (.aload_n 0, 1) from by decide +kernel) rfl (lv_at hl 1 rfl) ?_
  refine va_get (D := G.2.1) (ci := 9) (C := RJ4) (T := TJ4) (N := 4) hx hb hts j_uw hown hK hP 0 rfl rfl 0 (by decide) (hts _ (jw_at 7 rfl)) (fun _ h9 => h9) rfl (show decode cJ5_ensureCapacityInternal_d00df 19 = .ok (.getfield 15, 3) from by decide +kernel) ?_
  refine lv_aload_n hx hb (show decode cJ5_ensureCapacityInternal_d00df 22 = .ok (.aload_n 0, 1) from by decide +kernel) rfl (lv_at hl 1 rfl) ?_
  refine lv_iload_n hx hb (show decode cJ5_ensureCapacityInternal_d00df 23 = .ok (.iload_n 1, 1) from by decide +kernel) rfl (lv_at hl 2 rfl) ?_
  refine j_callU (n := 1) C (jc_newCapacity (ml := ml) (n := n) (q := q) (a := a) (wr := wr) h (by omega) hf hGf) ⟨(jw_at 21 rfl), (jw_at 22 rfl), (jw_at 23 rfl), (jw_at 24 rfl), (jw_at 25 rfl)⟩ ((jX_of hPr).2.1 _ (List.mem_cons_of_mem _ List.mem_cons_self)) ⟨by decide, by decide, by decide +kernel⟩ ⟨by decide, by decide⟩ hl.1 hP hD hS 0 rfl rfl (Nat.le_of_ble_eq_true rfl) (show decode cJ5_ensureCapacityInternal_d00df 24 = .ok (.invokevirtual 104, 3) from by decide +kernel) ⟨Nat.le_of_ble_eq_true rfl, Nat.le_of_ble_eq_true rfl⟩ (fun v ws' H locs hv hP hD hS => ?_)
  obtain ⟨rfl, rfl⟩ := hv
  refine lv_aload_n hx hb (show decode cJ5_ensureCapacityInternal_d00df 27 = .ok (.aload_n 0, 1) from by decide +kernel) rfl (lv_at hl 1 rfl) ?_
  refine va_get (D := G.2.1) (ci := 9) (C := RJ4) (T := TJ4) (N := 4) hx hb hts j_uw hown hK hP 0 rfl rfl 1 (by decide) (hts _ (jw_at 1 rfl)) (fun _ h9 => h9) rfl (show decode cJ5_ensureCapacityInternal_d00df 28 = .ok (.getfield 22, 3) from by decide +kernel) ?_
  refine lv_ishl hx hb (show decode cJ5_ensureCapacityInternal_d00df 31 = .ok (.ishl, 1) from by decide +kernel) ?_
  refine j_top (x' := nI (mm + (if k - mm < mm + 2 then mm + 2 else k - mm))) (sb_shl0 _) ?_
  have hP := j_P2 hP
  have hD := j_D2 hD
  have hmy : k ≤ mm + (if k - mm < mm + 2 then mm + 2 else k - mm) ∧ mm < mm + (if k - mm < mm + 2 then mm + 2 else k - mm) ∧ mm + (if k - mm < mm + 2 then mm + 2 else k - mm) ≤ 200 := by split <;> omega
  refine j_callS (n := 2) C (jc_copyOf (mm := mm) (k := mm + (if k - mm < mm + 2 then mm + 2 else k - mm)) hmy.2.1 hmy.2.2 hfa hf hGf) ⟨fun _ _ _ _ h => h, fun _ _ _ => trivial⟩ ⟨(jw_at 26 rfl), (jw_at 27 rfl), (jw_at 28 rfl), (jw_at 29 rfl)⟩ ⟨by decide, by decide, by decide +kernel⟩ ⟨by decide, by decide⟩ hl.1 hP hD hS rfl (Nat.le_of_ble_eq_true rfl) (show decode cJ5_ensureCapacityInternal_d00df 32 = .ok (.invokestatic 108, 3) from by decide +kernel) ⟨Nat.le_of_ble_eq_true rfl, Nat.le_of_ble_eq_true rfl⟩ (fun v ws' H locs hv hP hD hS => ?_)
  obtain ⟨q2, rfl, rfl⟩ := hv
  refine va_put (D := G.2.1) (ci := 9) (C := RJ4) (T := TJ4) (N := 4) (ty := tyJ4 0) hx hb hts j_uw tyJ4 tyJ4_ok nmJ4 hown hK hP hD hS 2 rfl rfl 0 (by decide) (hts _ (jw_at 7 rfl)) (fun _ h9 => h9) rfl (by decide +kernel) rfl rfl (Nat.le_of_ble_eq_true rfl) (show decode cJ5_ensureCapacityInternal_d00df 35 = .ok (.putfield 15, 3) from by decide +kernel) (fun H locs hP hD hS => ?_)
  have hP : va_P G.2.1 fcl (jAr G q2 (mm + (if k - mm < mm + 2 then mm + 2 else k - mm)) (va_cpy a (fun _ => 0) 0 0 mm) :: jAr G q mm a :: jSb b q2 ml n :: wr) H := hP
  have hD : va_D (fA G) (jAr G q2 (mm + (if k - mm < mm + 2 then mm + 2 else k - mm)) (va_cpy a (fun _ => 0) 0 0 mm) :: jAr G q mm a :: jSb b q2 ml n :: wr) := hD
  have hP := j_P3 hP
  have hD := j_D3 hD
  refine W.widen (k := 1) (n := 200) (Nat.le_of_ble_eq_true rfl) (Nat.le_of_ble_eq_true rfl) ?_
  exact W.vret hx hb hr (fun t ht hW => ⟨⟨_, _, rfl, ⟨rfl, q2, _, _, rfl, hmy.1, hmy.2.2, Nat.le_of_lt hmy.2.1, sb_fitC hfa sb_fit0, fun j hj => sb_cpy0 hj⟩, by rw [ht]; exact hP, hD⟩, hS.F ht⟩) hS.2.2 (show decode cJ5_ensureCapacityInternal_d00df 38 = .ok (.return_, 1) from by decide +kernel) hlocks
theorem jc_eci {G : fG} {l : Launch} {b q mm k : Nat} {ml n : Int32} {a : Nat → Int32} {wr : va_W} (hm : mm ≤ 200) (hk : k ≤ 95) (hfa : sb_Fit a) (hf : l.stackTraces = false) (hGf : fWf G) : jCX G jT1 l yJ5_ensureCapacityInternal_d00df (fw0 yJ5_ensureCapacityInternal_d00df cJ5_ensureCapacityInternal_d00df 3 none) { frames := 3, cells := 1, slots := 200, locals := 140 } [.ref b, .int (nI k)] (jSb b q ml n :: jAr G q mm a :: wr) (fun o ws => o = none ∧ ∃ (q' m' : Nat) (a' : Nat → Int32), ws = jSb b q' ml n :: jAr G q' m' a' :: wr ∧ k ≤ m' ∧ m' ≤ 200 ∧ mm ≤ m' ∧ sb_Fit a' ∧ ∀ j, j < mm → a' j = a j) := (Nat.lt_or_ge mm k).elim (fun h => jc_eciB hm hk hfa h hf hGf) (fun h => jc_eciA hm hk hfa h hf hGf)
set_option maxRecDepth 4096 in
theorem jc_appC {G : fG} {l : Launch} {b q mm k n : Nat} {ml : Int32} {a : Nat → Int32} {wr : va_W} (hm : mm ≤ 200) (hn : n ≤ mm) (hn1 : n < 92) (hfa : sb_Fit a) (hk : k < 128) (hf : l.stackTraces = false) (hGf : fWf G) : jCX G jT1 l yJ5_append_3fe6f (fw0 yJ5_append_3fe6f cJ5_append_3fe6f 2 (some (.object "java/lang/AbstractStringBuilder"))) { frames := 4, cells := 1, slots := 200, locals := 180 } [.ref b, .int (nI k)] (jSb b q ml (nI n) :: jAr G q mm a :: wr) (fun o ws => o = some (.ref b) ∧ ∃ (q' m' : Nat) (a' : Nat → Int32), ws = jSb b q' ml (nI (n + 1)) :: jAr G q' m' a' :: wr ∧ n + 1 ≤ m' ∧ m' ≤ 200 ∧ sb_Fit a' ∧ a' n = nI k ∧ ∀ j, j < n → a' j = a j) := by
  refine jof (own := RJ5) hf hGf (by decide) rfl (Nat.le_of_ble_eq_true rfl) ?_
  intro p e s m args below meth c ls C hr hl hP hD hS hXs
  have C' := C
  obtain ⟨hx, hb, hml, hown, hts, hlocks, hst, hG, hPr⟩ := C'
  have hK := hPr.1
  refine lv_aload_n hx hb (show decode cJ5_append_3fe6f 0 = .ok (.aload_n 0, 1) from by decide +kernel) rfl (lv_at hl 0 rfl) ?_
  refine lv_aload_n hx hb (show decode cJ5_append_3fe6f 1 = .ok (.aload_n 0, 1) from by decide +kernel) rfl (lv_at hl 0 rfl) ?_
  refine va_get (D := G.2.1) (ci := 9) (C := RJ4) (T := TJ4) (N := 4) hx hb hts j_uw hown hK hP 0 rfl rfl 3 (by decide) (hts _ (jw_at 30 rfl)) (fun _ h9 => h9) rfl (show decode cJ5_append_3fe6f 2 = .ok (.getfield 79, 3) from by decide +kernel) ?_
  refine lv_iconst (v := 1) hx hb (show decode cJ5_append_3fe6f 5 = .ok (.iconst 1, 1) from by decide +kernel) (by decide) ?_
  refine lv_iadd hx hb (show decode cJ5_append_3fe6f 6 = .ok (.iadd, 1) from by decide +kernel) ?_
  refine j_top (x' := nI (n + 1)) (nI_1 n) ?_
  refine j_callU (n := 1) C (jc_eci (k := n + 1) hm (by omega) hfa hf hGf) ⟨(jw_at 31 rfl), (jw_at 22 rfl), (jw_at 32 rfl), (jw_at 33 rfl), (jw_at 34 rfl)⟩ ((jX_of hPr).2.1 _ List.mem_cons_self) ⟨by decide, by decide, by decide +kernel⟩ ⟨by decide, by decide⟩ hl.1 hP hD hS 0 rfl rfl (Nat.le_of_ble_eq_true rfl) (show decode cJ5_append_3fe6f 7 = .ok (.invokevirtual 100, 3) from by decide +kernel) ⟨Nat.le_of_ble_eq_true rfl, Nat.le_of_ble_eq_true rfl⟩ (fun v ws' H locs hv hP hD hS => ?_)
  obtain ⟨rfl, q2, m2, a2, rfl, h1, h2, h3, h4, h5⟩ := hv
  refine lv_aload_n hx hb (show decode cJ5_append_3fe6f 10 = .ok (.aload_n 0, 1) from by decide +kernel) rfl (lv_at hl 0 rfl) ?_
  refine j_callU (n := 0) C (jc_isLatin1 hf hGf) ⟨(jw_at 36 rfl), (jw_at 22 rfl), (jw_at 37 rfl), (jw_at 38 rfl), (jw_at 39 rfl)⟩ (hts _ (jw_at 35 rfl)) ⟨by decide, by decide, by decide +kernel⟩ ⟨by decide, by decide⟩ hl.1 hP hD hS 0 rfl rfl (Nat.le_of_ble_eq_true rfl) (show decode cJ5_append_3fe6f 11 = .ok (.invokevirtual 83, 3) from by decide +kernel) ⟨Nat.le_of_ble_eq_true rfl, Nat.le_of_ble_eq_true rfl⟩ (fun v ws' H locs hv hP hD hS => ?_)
  obtain ⟨rfl, rfl⟩ := hv
  refine lv_if_eq (tgt := 45) hx hb (show decode cJ5_append_3fe6f 14 = .ok (.ifCond .eq 31, 3) from by decide +kernel) (by decide) (fun h9 => absurd h9 (by decide)) (fun _ => ?_)
  refine lv_iload_n hx hb (show decode cJ5_append_3fe6f 17 = .ok (.iload_n 1, 1) from by decide +kernel) rfl (lv_at hl 1 rfl) ?_
  refine j_callS (n := 1) C (jc_canEncode hk hf hGf) ⟨fun _ _ _ _ h => h, fun _ _ _ => trivial⟩ ⟨(jw_at 40 rfl), (jw_at 41 rfl), (jw_at 42 rfl), (jw_at 43 rfl)⟩ ⟨by decide, by decide, by decide +kernel⟩ ⟨by decide, by decide⟩ hl.1 hP hD hS rfl (Nat.le_of_ble_eq_true rfl) (show decode cJ5_append_3fe6f 18 = .ok (.invokestatic 191, 3) from by decide +kernel) ⟨Nat.le_of_ble_eq_true rfl, Nat.le_of_ble_eq_true rfl⟩ (fun v ws' H locs hv hP hD hS => ?_)
  obtain ⟨rfl, rfl⟩ := hv
  refine lv_if_eq (tgt := 45) hx hb (show decode cJ5_append_3fe6f 21 = .ok (.ifCond .eq 24, 3) from by decide +kernel) (by decide) (fun h9 => absurd h9 (by decide)) (fun _ => ?_)
  refine lv_aload_n hx hb (show decode cJ5_append_3fe6f 24 = .ok (.aload_n 0, 1) from by decide +kernel) rfl (lv_at hl 0 rfl) ?_
  refine va_get (D := G.2.1) (ci := 9) (C := RJ4) (T := TJ4) (N := 4) hx hb hts j_uw hown hK hP 0 rfl rfl 0 (by decide) (hts _ (jw_at 7 rfl)) (fun _ h9 => h9) rfl (show decode cJ5_append_3fe6f 25 = .ok (.getfield 15, 3) from by decide +kernel) ?_
  refine lv_aload_n hx hb (show decode cJ5_append_3fe6f 28 = .ok (.aload_n 0, 1) from by decide +kernel) rfl (lv_at hl 0 rfl) ?_
  refine lv_dup hx hb (show decode cJ5_append_3fe6f 29 = .ok (.dup, 1) from by decide +kernel) rfl ?_
  refine va_get (D := G.2.1) (ci := 9) (C := RJ4) (T := TJ4) (N := 4) hx hb hts j_uw hown hK hP 0 rfl rfl 3 (by decide) (hts _ (jw_at 30 rfl)) (fun _ h9 => h9) rfl (show decode cJ5_append_3fe6f 30 = .ok (.getfield 79, 3) from by decide +kernel) ?_
  refine lv_dup_x1 hx hb (show decode cJ5_append_3fe6f 33 = .ok (.dup_x1, 1) from by decide +kernel) rfl rfl ?_
  refine lv_iconst (v := 1) hx hb (show decode cJ5_append_3fe6f 34 = .ok (.iconst 1, 1) from by decide +kernel) (by decide) ?_
  refine lv_iadd hx hb (show decode cJ5_append_3fe6f 35 = .ok (.iadd, 1) from by decide +kernel) ?_
  refine j_top (x' := nI (n + 1)) (nI_1 n) ?_
  refine va_put (D := G.2.1) (ci := 9) (C := RJ4) (T := TJ4) (N := 4) (ty := tyJ4 3) hx hb hts j_uw tyJ4 tyJ4_ok nmJ4 hown hK hP hD hS 0 rfl rfl 3 (by decide) (hts _ (jw_at 30 rfl)) (fun _ h9 => h9) rfl (by decide +kernel) rfl rfl (Nat.le_of_ble_eq_true rfl) (show decode cJ5_append_3fe6f 36 = .ok (.putfield 79, 3) from by decide +kernel) (fun H locs hP hD hS => ?_)
  have hP : va_P G.2.1 fcl (jSb b q2 ml (nI (n + 1)) :: jAr G q2 m2 a2 :: wr) H := hP
  have hD : va_D (fA G) (jSb b q2 ml (nI (n + 1)) :: jAr G q2 m2 a2 :: wr) := hD
  refine lv_iload_n hx hb (show decode cJ5_append_3fe6f 39 = .ok (.iload_n 1, 1) from by decide +kernel) rfl (lv_at hl 1 rfl) ?_
  refine lv_i2b hx hb (show decode cJ5_append_3fe6f 40 = .ok (.i2b, 1) from by decide +kernel) rfl ?_
  refine va_bast hx hb hK hP hD hS 1 8 rfl (ftys_at G 8 (by decide)) (vp_in_nI (by omega) (by omega)) (show decode cJ5_append_3fe6f 41 = .ok (.bastore, 1) from by decide +kernel) (fun H locs hP hD hS => ?_)
  rw [nI_clamp (by omega), (j_by k hk).1] at hP hD
  have hP : va_P G.2.1 fcl (jSb b q2 ml (nI (n + 1)) :: jAr G q2 m2 (upd a2 n (nI k)) :: wr) H := hP
  have hD : va_D (fA G) (jSb b q2 ml (nI (n + 1)) :: jAr G q2 m2 (upd a2 n (nI k)) :: wr) := hD
  refine lv_goto (tgt := 75) hx hb (show decode cJ5_append_3fe6f 42 = .ok (.goto 33, 3) from by decide +kernel) (by decide) ?_
  refine lv_aload_n hx hb (show decode cJ5_append_3fe6f 75 = .ok (.aload_n 0, 1) from by decide +kernel) rfl (lv_at hl 0 rfl) ?_
  refine W.widen (k := 1) (n := 200) (Nat.le_of_ble_eq_true rfl) (Nat.le_of_ble_eq_true rfl) ?_
  exact W.aret hx hb hr (Or.inl ⟨_, rfl⟩) (Or.inr ⟨_, rfl⟩) (fun t ht hW => ⟨⟨_, _, rfl, ⟨rfl, q2, m2, _, rfl, h1, h2, sb_fitU h4 (j_by k hk).2.2.2.1, pk_us, fun j hj => (pk_un (by omega)).trans (h5 j (by omega))⟩, by rw [ht]; exact hP, hD⟩, hS.F ht⟩) hS.2.2 (show decode cJ5_append_3fe6f 76 = .ok (.areturn, 1) from by decide +kernel) hlocks
set_option maxRecDepth 4096 in
theorem jc_sbC {G : fG} {l : Launch} {b q mm k n : Nat} {ml : Int32} {a : Nat → Int32} {wr : va_W} (hm : mm ≤ 200) (hn : n ≤ mm) (hn1 : n < 92) (hfa : sb_Fit a) (hk : k < 128) (hf : l.stackTraces = false) (hGf : fWf G) : jCX G jT1 l yJ4_append_cf468 (fw0 yJ4_append_cf468 cJ4_append_cf468 2 (some (.object "java/lang/StringBuilder"))) { frames := 5, cells := 1, slots := 200, locals := 220 } [.ref b, .int (nI k)] (jSb b q ml (nI n) :: jAr G q mm a :: wr) (fun o ws => o = some (.ref b) ∧ ∃ (q' m' : Nat) (a' : Nat → Int32), ws = jSb b q' ml (nI (n + 1)) :: jAr G q' m' a' :: wr ∧ n + 1 ≤ m' ∧ m' ≤ 200 ∧ sb_Fit a' ∧ a' n = nI k ∧ ∀ j, j < n → a' j = a j) := by
  refine jof (own := RJ4) hf hGf (by decide) rfl (Nat.le_of_ble_eq_true rfl) ?_
  intro p e s m args below meth c ls C hr hl hP hD hS hXs
  have C' := C
  obtain ⟨hx, hb, hml, hown, hts, hlocks, hst, hG, hPr⟩ := C'
  have hK := hPr.1
  refine lv_aload_n hx hb (show decode cJ4_append_cf468 0 = .ok (.aload_n 0, 1) from by decide +kernel) rfl (lv_at hl 0 rfl) ?_
  refine lv_iload_n hx hb (show decode cJ4_append_cf468 1 = .ok (.iload_n 1, 1) from by decide +kernel) rfl (lv_at hl 1 rfl) ?_
  refine j_callSU (n := 1) C (jc_appC hm hn hn1 hfa hk hf hGf) ⟨(jw_at 44 rfl), (jw_at 22 rfl), (jw_at 45 rfl), (jw_at 46 rfl), (jw_at 47 rfl), (jw_at 48 rfl)⟩ (by decide) ⟨by decide, by decide, by decide +kernel⟩ ⟨by decide, by decide⟩ hl.1 hP hD hS 0 rfl rfl (Nat.le_of_ble_eq_true rfl) (show decode cJ4_append_cf468 2 = .ok (.invokespecial 50, 3) from by decide +kernel) ⟨Nat.le_of_ble_eq_true rfl, Nat.le_of_ble_eq_true rfl⟩ (fun v ws' H locs hv hP hD hS => ?_)
  obtain ⟨rfl, q2, m2, a2, rfl, hv⟩ := hv
  refine lv_pop hx hb (show decode cJ4_append_cf468 5 = .ok (.pop, 1) from by decide +kernel) rfl ?_
  refine lv_aload_n hx hb (show decode cJ4_append_cf468 6 = .ok (.aload_n 0, 1) from by decide +kernel) rfl (lv_at hl 0 rfl) ?_
  refine W.widen (k := 1) (n := 200) (Nat.le_of_ble_eq_true rfl) (Nat.le_of_ble_eq_true rfl) ?_
  exact W.aret hx hb hr (Or.inl ⟨_, rfl⟩) (Or.inr ⟨_, rfl⟩) (fun t ht hW => ⟨⟨_, _, rfl, ⟨rfl, q2, m2, a2, rfl, hv⟩, by rw [ht]; exact hP, hD⟩, hS.F ht⟩) hS.2.2 (show decode cJ4_append_cf468 7 = .ok (.areturn, 1) from by decide +kernel) hlocks
set_option maxRecDepth 4096 in
theorem jc_len5 {G : fG} {l : Launch} {b q : Nat} {ml n : Int32} {wr : va_W} (hf : l.stackTraces = false) (hGf : fWf G) : jCX G jT1 l yJ5_length_8abf5 (fw0 yJ5_length_8abf5 cJ5_length_8abf5 1 (some .int)) { frames := 0, cells := 0, slots := 0, locals := 0 } [.ref b] (jSb b q ml n :: wr) (fun o ws => o = some (.int n) ∧ ws = jSb b q ml n :: wr) := by
  refine jof (own := RJ5) hf hGf (by decide) rfl (Nat.le_of_ble_eq_true rfl) ?_
  intro p e s m args below meth c ls C hr hl hP hD hS hXs
  have C' := C
  obtain ⟨hx, hb, hml, hown, hts, hlocks, hst, hG, hPr⟩ := C'
  have hK := hPr.1
  refine lv_aload_n hx hb (show decode cJ5_length_8abf5 0 = .ok (.aload_n 0, 1) from by decide +kernel) rfl (lv_at hl 0 rfl) ?_
  refine va_get (D := G.2.1) (ci := 9) (C := RJ4) (T := TJ4) (N := 4) hx hb hts j_uw hown hK hP 0 rfl rfl 3 (by decide) (hts _ (jw_at 30 rfl)) (fun _ h9 => h9) rfl (show decode cJ5_length_8abf5 1 = .ok (.getfield 79, 3) from by decide +kernel) ?_
  refine W.widen (k := 0) (n := 0) (Nat.le_of_ble_eq_true rfl) (Nat.le_of_ble_eq_true rfl) ?_
  exact W.iret hx hb hr (fun t ht hW => ⟨⟨_, _, rfl, ⟨rfl, rfl⟩, by rw [ht]; exact hP, hD⟩, hS.F ht⟩) hS.2.2 (show decode cJ5_length_8abf5 4 = .ok (.ireturn, 1) from by decide +kernel) hlocks
set_option maxRecDepth 4096 in
theorem jc_sbLen {G : fG} {l : Launch} {b q : Nat} {ml n : Int32} {wr : va_W} (hf : l.stackTraces = false) (hGf : fWf G) : jCX G jT1 l yJ4_length_8abf5 (fw0 yJ4_length_8abf5 cJ4_length_8abf5 1 (some .int)) { frames := 1, cells := 0, slots := 0, locals := 40 } [.ref b] (jSb b q ml n :: wr) (fun o ws => o = some (.int n) ∧ ws = jSb b q ml n :: wr) := by
  refine jof (own := RJ4) hf hGf (by decide) rfl (Nat.le_of_ble_eq_true rfl) ?_
  intro p e s m args below meth c ls C hr hl hP hD hS hXs
  have C' := C
  obtain ⟨hx, hb, hml, hown, hts, hlocks, hst, hG, hPr⟩ := C'
  have hK := hPr.1
  refine lv_aload_n hx hb (show decode cJ4_length_8abf5 0 = .ok (.aload_n 0, 1) from by decide +kernel) rfl (lv_at hl 0 rfl) ?_
  refine j_callSU (n := 0) C (jc_len5 hf hGf) ⟨(jw_at 49 rfl), (jw_at 22 rfl), (jw_at 50 rfl), (jw_at 51 rfl), (jw_at 47 rfl), (jw_at 52 rfl)⟩ (by decide) ⟨by decide, by decide, by decide +kernel⟩ ⟨by decide, by decide⟩ hl.1 hP hD hS 0 rfl rfl (Nat.le_of_ble_eq_true rfl) (show decode cJ4_length_8abf5 1 = .ok (.invokespecial 343, 3) from by decide +kernel) ⟨Nat.le_of_ble_eq_true rfl, Nat.le_of_ble_eq_true rfl⟩ (fun v ws' H locs hv hP hD hS => ?_)
  obtain ⟨rfl, rfl⟩ := hv
  refine W.widen (k := 0) (n := 0) (Nat.le_of_ble_eq_true rfl) (Nat.le_of_ble_eq_true rfl) ?_
  exact W.iret hx hb hr (fun t ht hW => ⟨⟨_, _, rfl, ⟨rfl, rfl⟩, by rw [ht]; exact hP, hD⟩, hS.F ht⟩) hS.2.2 (show decode cJ4_length_8abf5 4 = .ok (.ireturn, 1) from by decide +kernel) hlocks
set_option maxRecDepth 4096 in
theorem jc_setA {G : fG} {l : Launch} {b q mm n : Nat} {ml : Int32} {a : Nat → Int32} {wr : va_W} (hm : mm ≤ 200) (hn : n < 2 ^ 31) (hfa : sb_Fit a) (h : n = 0) (hf : l.stackTraces = false) (hGf : fWf G) : jCX G jT1 l yJ5_setLength_d00df (fw0 yJ5_setLength_d00df cJ5_setLength_d00df 2 none) { frames := 1, cells := 0, slots := 0, locals := 40 } [.ref b, .int 0] (jSb b q ml (nI n) :: jAr G q mm a :: wr) (fun o ws => o = none ∧ ∃ (q' : Nat) (ml' : Int32) (m' : Nat) (a' : Nat → Int32), ws = jSb b q' ml' 0 :: jAr G q' m' a' :: wr ∧ m' ≤ 200 ∧ sb_Fit a') := by
  refine jof (own := RJ5) hf hGf (by decide) rfl (Nat.le_of_ble_eq_true rfl) ?_
  intro p e s m args below meth c ls C hr hl hP hD hS hXs
  have C' := C
  obtain ⟨hx, hb, hml, hown, hts, hlocks, hst, hG, hPr⟩ := C'
  have hK := hPr.1
  refine lv_iload_n hx hb (show decode cJ5_setLength_d00df 0 = .ok (.iload_n 1, 1) from by decide +kernel) rfl (lv_at hl 1 rfl) ?_
  refine lv_if_ge (tgt := 13) hx hb (show decode cJ5_setLength_d00df 1 = .ok (.ifCond .ge 12, 3) from by decide +kernel) (by decide) (fun _ => ?_) (fun h9 => absurd (show (0 : Int32) ≤ 0 by decide) h9)
  refine lv_aload_n hx hb (show decode cJ5_setLength_d00df 13 = .ok (.aload_n 0, 1) from by decide +kernel) rfl (lv_at hl 0 rfl) ?_
  refine lv_iload_n hx hb (show decode cJ5_setLength_d00df 14 = .ok (.iload_n 1, 1) from by decide +kernel) rfl (lv_at hl 1 rfl) ?_
  refine j_callU (n := 1) C (jc_eciZ (k := 0) hm (by omega) hfa (Nat.zero_le _) hf hGf) ⟨(jw_at 31 rfl), (jw_at 22 rfl), (jw_at 32 rfl), (jw_at 33 rfl), (jw_at 34 rfl)⟩ ((jX_of hPr).2.1 _ List.mem_cons_self) ⟨by decide, by decide, by decide +kernel⟩ ⟨by decide, by decide⟩ hl.1 hP hD hS 0 rfl rfl (Nat.le_of_ble_eq_true rfl) (show decode cJ5_setLength_d00df 15 = .ok (.invokevirtual 100, 3) from by decide +kernel) ⟨Nat.le_of_ble_eq_true rfl, Nat.le_of_ble_eq_true rfl⟩ (fun v ws' H locs hv hP hD hS => ?_)
  obtain ⟨rfl, q2, m2, a2, rfl, h1, h2, h3, h4, h5⟩ := hv
  refine lv_aload_n hx hb (show decode cJ5_setLength_d00df 18 = .ok (.aload_n 0, 1) from by decide +kernel) rfl (lv_at hl 0 rfl) ?_
  refine va_get (D := G.2.1) (ci := 9) (C := RJ4) (T := TJ4) (N := 4) hx hb hts j_uw hown hK hP 0 rfl rfl 3 (by decide) (hts _ (jw_at 30 rfl)) (fun _ h9 => h9) rfl (show decode cJ5_setLength_d00df 19 = .ok (.getfield 79, 3) from by decide +kernel) ?_
  refine lv_iload_n hx hb (show decode cJ5_setLength_d00df 22 = .ok (.iload_n 1, 1) from by decide +kernel) rfl (lv_at hl 1 rfl) ?_
  refine lv_icmp_ge (tgt := 63) hx hb (show decode cJ5_setLength_d00df 23 = .ok (.if_icmp .ge 40, 3) from by decide +kernel) (by decide) (fun _ => ?_) (fun h9 => absurd (j_0le hn) h9)
  refine lv_aload_n hx hb (show decode cJ5_setLength_d00df 63 = .ok (.aload_n 0, 1) from by decide +kernel) rfl (lv_at hl 0 rfl) ?_
  refine va_get (D := G.2.1) (ci := 9) (C := RJ4) (T := TJ4) (N := 4) hx hb hts j_uw hown hK hP 0 rfl rfl 3 (by decide) (hts _ (jw_at 30 rfl)) (fun _ h9 => h9) rfl (show decode cJ5_setLength_d00df 64 = .ok (.getfield 79, 3) from by decide +kernel) ?_
  refine lv_iload_n hx hb (show decode cJ5_setLength_d00df 67 = .ok (.iload_n 1, 1) from by decide +kernel) rfl (lv_at hl 1 rfl) ?_
  refine lv_icmp_le (tgt := 76) hx hb (show decode cJ5_setLength_d00df 68 = .ok (.if_icmp .le 8, 3) from by decide +kernel) (by decide) (fun _ => ?_) (fun h9 => absurd (by rw [h]; decide) h9)
  refine lv_aload_n hx hb (show decode cJ5_setLength_d00df 76 = .ok (.aload_n 0, 1) from by decide +kernel) rfl (lv_at hl 0 rfl) ?_
  refine lv_iload_n hx hb (show decode cJ5_setLength_d00df 77 = .ok (.iload_n 1, 1) from by decide +kernel) rfl (lv_at hl 1 rfl) ?_
  refine va_put (D := G.2.1) (ci := 9) (C := RJ4) (T := TJ4) (N := 4) (ty := tyJ4 3) hx hb hts j_uw tyJ4 tyJ4_ok nmJ4 hown hK hP hD hS 0 rfl rfl 3 (by decide) (hts _ (jw_at 30 rfl)) (fun _ h9 => h9) rfl (by decide +kernel) rfl rfl (Nat.le_of_ble_eq_true rfl) (show decode cJ5_setLength_d00df 78 = .ok (.putfield 79, 3) from by decide +kernel) (fun H locs hP hD hS => ?_)
  have hP : va_P G.2.1 fcl (jSb b q2 ml 0 :: jAr G q2 m2 a2 :: wr) H := hP
  have hD : va_D (fA G) (jSb b q2 ml 0 :: jAr G q2 m2 a2 :: wr) := hD
  refine W.widen (k := 0) (n := 0) (Nat.le_of_ble_eq_true rfl) (Nat.le_of_ble_eq_true rfl) ?_
  exact W.vret hx hb hr (fun t ht hW => ⟨⟨_, _, rfl, ⟨rfl, q2, ml, m2, a2, rfl, h2, h4⟩, by rw [ht]; exact hP, hD⟩, hS.F ht⟩) hS.2.2 (show decode cJ5_setLength_d00df 81 = .ok (.return_, 1) from by decide +kernel) hlocks
set_option maxRecDepth 4096 in
theorem jc_setB {G : fG} {l : Launch} {b q mm n : Nat} {ml : Int32} {a : Nat → Int32} {wr : va_W} (hm : mm ≤ 200) (hn : n < 2 ^ 31) (hfa : sb_Fit a) (h : 0 < n) (hf : l.stackTraces = false) (hGf : fWf G) : jCX G jT1 l yJ5_setLength_d00df (fw0 yJ5_setLength_d00df cJ5_setLength_d00df 2 none) { frames := 1, cells := 0, slots := 0, locals := 40 } [.ref b, .int 0] (jSb b q ml (nI n) :: jAr G q mm a :: wr) (fun o ws => o = none ∧ ∃ (q' : Nat) (ml' : Int32) (m' : Nat) (a' : Nat → Int32), ws = jSb b q' ml' 0 :: jAr G q' m' a' :: wr ∧ m' ≤ 200 ∧ sb_Fit a') := by
  refine jof (own := RJ5) hf hGf (by decide) rfl (Nat.le_of_ble_eq_true rfl) ?_
  intro p e s m args below meth c ls C hr hl hP hD hS hXs
  have C' := C
  obtain ⟨hx, hb, hml, hown, hts, hlocks, hst, hG, hPr⟩ := C'
  have hK := hPr.1
  refine lv_iload_n hx hb (show decode cJ5_setLength_d00df 0 = .ok (.iload_n 1, 1) from by decide +kernel) rfl (lv_at hl 1 rfl) ?_
  refine lv_if_ge (tgt := 13) hx hb (show decode cJ5_setLength_d00df 1 = .ok (.ifCond .ge 12, 3) from by decide +kernel) (by decide) (fun _ => ?_) (fun h9 => absurd (show (0 : Int32) ≤ 0 by decide) h9)
  refine lv_aload_n hx hb (show decode cJ5_setLength_d00df 13 = .ok (.aload_n 0, 1) from by decide +kernel) rfl (lv_at hl 0 rfl) ?_
  refine lv_iload_n hx hb (show decode cJ5_setLength_d00df 14 = .ok (.iload_n 1, 1) from by decide +kernel) rfl (lv_at hl 1 rfl) ?_
  refine j_callU (n := 1) C (jc_eciZ (k := 0) hm (by omega) hfa (Nat.zero_le _) hf hGf) ⟨(jw_at 31 rfl), (jw_at 22 rfl), (jw_at 32 rfl), (jw_at 33 rfl), (jw_at 34 rfl)⟩ ((jX_of hPr).2.1 _ List.mem_cons_self) ⟨by decide, by decide, by decide +kernel⟩ ⟨by decide, by decide⟩ hl.1 hP hD hS 0 rfl rfl (Nat.le_of_ble_eq_true rfl) (show decode cJ5_setLength_d00df 15 = .ok (.invokevirtual 100, 3) from by decide +kernel) ⟨Nat.le_of_ble_eq_true rfl, Nat.le_of_ble_eq_true rfl⟩ (fun v ws' H locs hv hP hD hS => ?_)
  obtain ⟨rfl, q2, m2, a2, rfl, h1, h2, h3, h4, h5⟩ := hv
  refine lv_aload_n hx hb (show decode cJ5_setLength_d00df 18 = .ok (.aload_n 0, 1) from by decide +kernel) rfl (lv_at hl 0 rfl) ?_
  refine va_get (D := G.2.1) (ci := 9) (C := RJ4) (T := TJ4) (N := 4) hx hb hts j_uw hown hK hP 0 rfl rfl 3 (by decide) (hts _ (jw_at 30 rfl)) (fun _ h9 => h9) rfl (show decode cJ5_setLength_d00df 19 = .ok (.getfield 79, 3) from by decide +kernel) ?_
  refine lv_iload_n hx hb (show decode cJ5_setLength_d00df 22 = .ok (.iload_n 1, 1) from by decide +kernel) rfl (lv_at hl 1 rfl) ?_
  refine lv_icmp_ge (tgt := 63) hx hb (show decode cJ5_setLength_d00df 23 = .ok (.if_icmp .ge 40, 3) from by decide +kernel) (by decide) (fun _ => ?_) (fun h9 => absurd (j_0le hn) h9)
  refine lv_aload_n hx hb (show decode cJ5_setLength_d00df 63 = .ok (.aload_n 0, 1) from by decide +kernel) rfl (lv_at hl 0 rfl) ?_
  refine va_get (D := G.2.1) (ci := 9) (C := RJ4) (T := TJ4) (N := 4) hx hb hts j_uw hown hK hP 0 rfl rfl 3 (by decide) (hts _ (jw_at 30 rfl)) (fun _ h9 => h9) rfl (show decode cJ5_setLength_d00df 64 = .ok (.getfield 79, 3) from by decide +kernel) ?_
  refine lv_iload_n hx hb (show decode cJ5_setLength_d00df 67 = .ok (.iload_n 1, 1) from by decide +kernel) rfl (lv_at hl 1 rfl) ?_
  refine lv_icmp_le (tgt := 76) hx hb (show decode cJ5_setLength_d00df 68 = .ok (.if_icmp .le 8, 3) from by decide +kernel) (by decide) (fun h9 => absurd h9 (nI_nle h (by omega))) (fun _ => ?_)
  refine lv_aload_n hx hb (show decode cJ5_setLength_d00df 71 = .ok (.aload_n 0, 1) from by decide +kernel) rfl (lv_at hl 0 rfl) ?_
  refine lv_iconst (v := 1) hx hb (show decode cJ5_setLength_d00df 72 = .ok (.iconst 1, 1) from by decide +kernel) (by decide) ?_
  refine va_put (D := G.2.1) (ci := 9) (C := RJ4) (T := TJ4) (N := 4) (ty := tyJ4 2) hx hb hts j_uw tyJ4 tyJ4_ok nmJ4 hown hK hP hD hS 0 rfl rfl 2 (by decide) (hts _ (jw_at 53 rfl)) (fun _ h9 => h9) rfl (by decide +kernel) rfl rfl (Nat.le_of_ble_eq_true rfl) (show decode cJ5_setLength_d00df 73 = .ok (.putfield 73, 3) from by decide +kernel) (fun H locs hP hD hS => ?_)
  have hP : va_P G.2.1 fcl (jSb b q2 1 (nI n) :: jAr G q2 m2 a2 :: wr) H := hP
  have hD : va_D (fA G) (jSb b q2 1 (nI n) :: jAr G q2 m2 a2 :: wr) := hD
  refine lv_aload_n hx hb (show decode cJ5_setLength_d00df 76 = .ok (.aload_n 0, 1) from by decide +kernel) rfl (lv_at hl 0 rfl) ?_
  refine lv_iload_n hx hb (show decode cJ5_setLength_d00df 77 = .ok (.iload_n 1, 1) from by decide +kernel) rfl (lv_at hl 1 rfl) ?_
  refine va_put (D := G.2.1) (ci := 9) (C := RJ4) (T := TJ4) (N := 4) (ty := tyJ4 3) hx hb hts j_uw tyJ4 tyJ4_ok nmJ4 hown hK hP hD hS 0 rfl rfl 3 (by decide) (hts _ (jw_at 30 rfl)) (fun _ h9 => h9) rfl (by decide +kernel) rfl rfl (Nat.le_of_ble_eq_true rfl) (show decode cJ5_setLength_d00df 78 = .ok (.putfield 79, 3) from by decide +kernel) (fun H locs hP hD hS => ?_)
  have hP : va_P G.2.1 fcl (jSb b q2 1 0 :: jAr G q2 m2 a2 :: wr) H := hP
  have hD : va_D (fA G) (jSb b q2 1 0 :: jAr G q2 m2 a2 :: wr) := hD
  refine W.widen (k := 0) (n := 0) (Nat.le_of_ble_eq_true rfl) (Nat.le_of_ble_eq_true rfl) ?_
  exact W.vret hx hb hr (fun t ht hW => ⟨⟨_, _, rfl, ⟨rfl, q2, 1, m2, a2, rfl, h2, h4⟩, by rw [ht]; exact hP, hD⟩, hS.F ht⟩) hS.2.2 (show decode cJ5_setLength_d00df 81 = .ok (.return_, 1) from by decide +kernel) hlocks
theorem jc_set {G : fG} {l : Launch} {b q mm n : Nat} {ml : Int32} {a : Nat → Int32} {wr : va_W} (hm : mm ≤ 200) (hn : n < 2 ^ 31) (hfa : sb_Fit a) (hf : l.stackTraces = false) (hGf : fWf G) : jCX G jT1 l yJ5_setLength_d00df (fw0 yJ5_setLength_d00df cJ5_setLength_d00df 2 none) { frames := 1, cells := 0, slots := 0, locals := 40 } [.ref b, .int 0] (jSb b q ml (nI n) :: jAr G q mm a :: wr) (fun o ws => o = none ∧ ∃ (q' : Nat) (ml' : Int32) (m' : Nat) (a' : Nat → Int32), ws = jSb b q' ml' 0 :: jAr G q' m' a' :: wr ∧ m' ≤ 200 ∧ sb_Fit a') := (Nat.eq_zero_or_pos n).elim (fun h => jc_setA hm hn hfa h hf hGf) (fun h => jc_setB hm hn hfa h hf hGf)
set_option maxRecDepth 4096 in
theorem jc_sbSet {G : fG} {l : Launch} {b q mm n : Nat} {ml : Int32} {a : Nat → Int32} {wr : va_W} (hm : mm ≤ 200) (hn : n < 2 ^ 31) (hfa : sb_Fit a) (hf : l.stackTraces = false) (hGf : fWf G) : jCX G jT1 l yJ4_setLength_d00df (fw0 yJ4_setLength_d00df cJ4_setLength_d00df 2 none) { frames := 2, cells := 0, slots := 0, locals := 80 } [.ref b, .int 0] (jSb b q ml (nI n) :: jAr G q mm a :: wr) (fun o ws => o = none ∧ ∃ (q' : Nat) (ml' : Int32) (m' : Nat) (a' : Nat → Int32), ws = jSb b q' ml' 0 :: jAr G q' m' a' :: wr ∧ m' ≤ 200 ∧ sb_Fit a') := by
  refine jof (own := RJ4) hf hGf (by decide) rfl (Nat.le_of_ble_eq_true rfl) ?_
  intro p e s m args below meth c ls C hr hl hP hD hS hXs
  have C' := C
  obtain ⟨hx, hb, hml, hown, hts, hlocks, hst, hG, hPr⟩ := C'
  have hK := hPr.1
  refine lv_aload_n hx hb (show decode cJ4_setLength_d00df 0 = .ok (.aload_n 0, 1) from by decide +kernel) rfl (lv_at hl 0 rfl) ?_
  refine lv_iload_n hx hb (show decode cJ4_setLength_d00df 1 = .ok (.iload_n 1, 1) from by decide +kernel) rfl (lv_at hl 1 rfl) ?_
  refine j_callSU (n := 1) C (jc_set hm hn hfa hf hGf) ⟨(jw_at 54 rfl), (jw_at 22 rfl), (jw_at 55 rfl), (jw_at 56 rfl), (jw_at 47 rfl), (jw_at 57 rfl)⟩ (by decide) ⟨by decide, by decide, by decide +kernel⟩ ⟨by decide, by decide⟩ hl.1 hP hD hS 0 rfl rfl (Nat.le_of_ble_eq_true rfl) (show decode cJ4_setLength_d00df 2 = .ok (.invokespecial 333, 3) from by decide +kernel) ⟨Nat.le_of_ble_eq_true rfl, Nat.le_of_ble_eq_true rfl⟩ (fun v ws' H locs hv hP hD hS => ?_)
  obtain ⟨rfl, hv⟩ := hv
  refine W.widen (k := 0) (n := 0) (Nat.le_of_ble_eq_true rfl) (Nat.le_of_ble_eq_true rfl) ?_
  exact W.vret hx hb hr (fun t ht hW => ⟨⟨_, _, rfl, ⟨rfl, hv⟩, by rw [ht]; exact hP, hD⟩, hS.F ht⟩) hS.2.2 (show decode cJ4_setLength_d00df 5 = .ok (.return_, 1) from by decide +kernel) hlocks
set_option maxRecDepth 4096 in
theorem jc_pciR {G : fG} {l : Launch} {i n : Nat} {r : Nat} {w : va_W} (h : i < n) (hn : n < 2 ^ 31) (hf : l.stackTraces = false) (hGf : fWf G) : jCX G jT1 l yJ3_checkIndex_8e157 (fw0 yJ3_checkIndex_8e157 cJ3_checkIndex_8e157 3 (some .int)) { frames := 0, cells := 0, slots := 0, locals := 0 } [.int (nI i), .int (nI n), .ref r] w (fun o ws => o = some (.int (nI i)) ∧ ws = w) := by
  refine jof (own := RJ3) hf hGf (by decide) rfl (Nat.le_of_ble_eq_true rfl) ?_
  intro p e s m args below meth c ls C hr hl hP hD hS hXs
  have C' := C
  obtain ⟨hx, hb, hml, hown, hts, hlocks, hst, hG, hPr⟩ := C'
  have hK := hPr.1
  refine lv_iload_n hx hb (show decode cJ3_checkIndex_8e157 0 = .ok (.iload_n 0, 1) from by decide +kernel) rfl (lv_at hl 0 rfl) ?_
  refine lv_if_lt (tgt := 9) hx hb (show decode cJ3_checkIndex_8e157 1 = .ok (.ifCond .lt 8, 3) from by decide +kernel) (by decide) (fun h9 => absurd h9 (nI_pos (by omega))) (fun _ => ?_)
  refine lv_iload_n hx hb (show decode cJ3_checkIndex_8e157 4 = .ok (.iload_n 0, 1) from by decide +kernel) rfl (lv_at hl 0 rfl) ?_
  refine lv_iload_n hx hb (show decode cJ3_checkIndex_8e157 5 = .ok (.iload_n 1, 1) from by decide +kernel) rfl (lv_at hl 1 rfl) ?_
  refine lv_icmp_lt (tgt := 16) hx hb (show decode cJ3_checkIndex_8e157 6 = .ok (.if_icmp .lt 10, 3) from by decide +kernel) (by decide) (fun _ => ?_) (fun h9 => absurd (nI_lt h hn) h9)
  refine lv_iload_n hx hb (show decode cJ3_checkIndex_8e157 16 = .ok (.iload_n 0, 1) from by decide +kernel) rfl (lv_at hl 0 rfl) ?_
  refine W.widen (k := 0) (n := 0) (Nat.le_of_ble_eq_true rfl) (Nat.le_of_ble_eq_true rfl) ?_
  exact W.iret hx hb hr (fun t ht hW => ⟨⟨_, _, rfl, ⟨rfl, rfl⟩, by rw [ht]; exact hP, hD⟩, hS.F ht⟩) hS.2.2 (show decode cJ3_checkIndex_8e157 17 = .ok (.ireturn, 1) from by decide +kernel) hlocks
set_option maxRecDepth 4096 in
theorem jc_pciN {G : fG} {l : Launch} {i n : Nat} {w : va_W} (h : i < n) (hn : n < 2 ^ 31) (hf : l.stackTraces = false) (hGf : fWf G) : jCX G jT1 l yJ3_checkIndex_8e157 (fw0 yJ3_checkIndex_8e157 cJ3_checkIndex_8e157 3 (some .int)) { frames := 0, cells := 0, slots := 0, locals := 0 } [.int (nI i), .int (nI n), .null] w (fun o ws => o = some (.int (nI i)) ∧ ws = w) := by
  refine jof (own := RJ3) hf hGf (by decide) rfl (Nat.le_of_ble_eq_true rfl) ?_
  intro p e s m args below meth c ls C hr hl hP hD hS hXs
  have C' := C
  obtain ⟨hx, hb, hml, hown, hts, hlocks, hst, hG, hPr⟩ := C'
  have hK := hPr.1
  refine lv_iload_n hx hb (show decode cJ3_checkIndex_8e157 0 = .ok (.iload_n 0, 1) from by decide +kernel) rfl (lv_at hl 0 rfl) ?_
  refine lv_if_lt (tgt := 9) hx hb (show decode cJ3_checkIndex_8e157 1 = .ok (.ifCond .lt 8, 3) from by decide +kernel) (by decide) (fun h9 => absurd h9 (nI_pos (by omega))) (fun _ => ?_)
  refine lv_iload_n hx hb (show decode cJ3_checkIndex_8e157 4 = .ok (.iload_n 0, 1) from by decide +kernel) rfl (lv_at hl 0 rfl) ?_
  refine lv_iload_n hx hb (show decode cJ3_checkIndex_8e157 5 = .ok (.iload_n 1, 1) from by decide +kernel) rfl (lv_at hl 1 rfl) ?_
  refine lv_icmp_lt (tgt := 16) hx hb (show decode cJ3_checkIndex_8e157 6 = .ok (.if_icmp .lt 10, 3) from by decide +kernel) (by decide) (fun _ => ?_) (fun h9 => absurd (nI_lt h hn) h9)
  refine lv_iload_n hx hb (show decode cJ3_checkIndex_8e157 16 = .ok (.iload_n 0, 1) from by decide +kernel) rfl (lv_at hl 0 rfl) ?_
  refine W.widen (k := 0) (n := 0) (Nat.le_of_ble_eq_true rfl) (Nat.le_of_ble_eq_true rfl) ?_
  exact W.iret hx hb hr (fun t ht hW => ⟨⟨_, _, rfl, ⟨rfl, rfl⟩, by rw [ht]; exact hP, hD⟩, hS.F ht⟩) hS.2.2 (show decode cJ3_checkIndex_8e157 17 = .ok (.ireturn, 1) from by decide +kernel) hlocks
set_option maxRecDepth 4096 in
theorem jc_check {G : fG} {l : Launch} {i n : Nat} {w : va_W} (h : i < n) (hn : n < 2 ^ 31) (hf : l.stackTraces = false) (hGf : fWf G) : jCX G jT1 l yJ0_checkIndex_df160 (fw0 yJ0_checkIndex_df160 cJ0_checkIndex_df160 2 none) { frames := 1, cells := 0, slots := 0, locals := 40 } [.int (nI i), .int (nI n)] w (fun o ws => o = none ∧ ws = w) := by
  refine jof (own := RJ0) hf hGf (by decide) rfl (Nat.le_of_ble_eq_true rfl) ?_
  intro p e s m args below meth c ls C hr hl hP hD hS hXs
  have C' := C
  obtain ⟨hx, hb, hml, hown, hts, hlocks, hst, hG, hPr⟩ := C'
  have hK := hPr.1
  rcases (jX_of hPr).1 with hz | ⟨r, hz⟩
  · refine lv_iload_n hx hb (show decode cJ0_checkIndex_df160 0 = .ok (.iload_n 0, 1) from by decide +kernel) rfl (lv_at hl 0 rfl) ?_
    refine lv_iload_n hx hb (show decode cJ0_checkIndex_df160 1 = .ok (.iload_n 1, 1) from by decide +kernel) rfl (lv_at hl 1 rfl) ?_
    refine va_gets hx hb hz hS hown (hts _ (jw_at 58 rfl)) (fun _ h9 => h9) (show decode cJ0_checkIndex_df160 2 = .ok (.getstatic 1053, 3) from by decide +kernel) ?_
    refine j_callS (n := 3) C (jc_pciN h hn hf hGf) ⟨fun _ _ _ _ h => h, fun _ _ _ => trivial⟩ ⟨(jw_at 59 rfl), (jw_at 60 rfl), (jw_at 61 rfl), (jw_at 62 rfl)⟩ ⟨by decide, by decide, by decide +kernel⟩ ⟨by decide, by decide⟩ hl.1 hP hD hS rfl (Nat.le_of_ble_eq_true rfl) (show decode cJ0_checkIndex_df160 5 = .ok (.invokestatic 1059, 3) from by decide +kernel) ⟨Nat.le_of_ble_eq_true rfl, Nat.le_of_ble_eq_true rfl⟩ (fun v ws' H locs hv hP hD hS => ?_)
    obtain ⟨rfl, ew⟩ := hv
    rw [ew] at hP hD
    refine lv_pop hx hb (show decode cJ0_checkIndex_df160 8 = .ok (.pop, 1) from by decide +kernel) rfl ?_
    refine W.widen (k := 0) (n := 0) (Nat.le_of_ble_eq_true rfl) (Nat.le_of_ble_eq_true rfl) ?_
    exact W.vret hx hb hr (fun t ht hW => ⟨⟨_, _, rfl, ⟨rfl, rfl⟩, by rw [ht]; exact hP, hD⟩, hS.F ht⟩) hS.2.2 (show decode cJ0_checkIndex_df160 9 = .ok (.return_, 1) from by decide +kernel) hlocks
  · refine lv_iload_n hx hb (show decode cJ0_checkIndex_df160 0 = .ok (.iload_n 0, 1) from by decide +kernel) rfl (lv_at hl 0 rfl) ?_
    refine lv_iload_n hx hb (show decode cJ0_checkIndex_df160 1 = .ok (.iload_n 1, 1) from by decide +kernel) rfl (lv_at hl 1 rfl) ?_
    refine va_gets hx hb hz hS hown (hts _ (jw_at 58 rfl)) (fun _ h9 => h9) (show decode cJ0_checkIndex_df160 2 = .ok (.getstatic 1053, 3) from by decide +kernel) ?_
    refine j_callS (n := 3) C (jc_pciR (r := r) h hn hf hGf) ⟨fun _ _ _ _ h => h, fun _ _ _ => trivial⟩ ⟨(jw_at 59 rfl), (jw_at 60 rfl), (jw_at 61 rfl), (jw_at 62 rfl)⟩ ⟨by decide, by decide, by decide +kernel⟩ ⟨by decide, by decide⟩ hl.1 hP hD hS rfl (Nat.le_of_ble_eq_true rfl) (show decode cJ0_checkIndex_df160 5 = .ok (.invokestatic 1059, 3) from by decide +kernel) ⟨Nat.le_of_ble_eq_true rfl, Nat.le_of_ble_eq_true rfl⟩ (fun v ws' H locs hv hP hD hS => ?_)
    obtain ⟨rfl, ew⟩ := hv
    rw [ew] at hP hD
    refine lv_pop hx hb (show decode cJ0_checkIndex_df160 8 = .ok (.pop, 1) from by decide +kernel) rfl ?_
    refine W.widen (k := 0) (n := 0) (Nat.le_of_ble_eq_true rfl) (Nat.le_of_ble_eq_true rfl) ?_
    exact W.vret hx hb hr (fun t ht hW => ⟨⟨_, _, rfl, ⟨rfl, rfl⟩, by rw [ht]; exact hP, hD⟩, hS.F ht⟩) hS.2.2 (show decode cJ0_checkIndex_df160 9 = .ok (.return_, 1) from by decide +kernel) hlocks
set_option maxRecDepth 4096 in
theorem jc_cha {G : fG} {l : Launch} {b q mm n i k : Nat} {ml : Int32} {a : Nat → Int32} {wr : va_W} (hm : mm ≤ 200) (hn : n ≤ mm) (hi : i < n) (hk : k < 128) (hk2 : a i = nI k) (hf : l.stackTraces = false) (hGf : fWf G) : jCX G jT1 l yJ5_charAt_5068e (fw0 yJ5_charAt_5068e cJ5_charAt_5068e 5 (some .char)) { frames := 2, cells := 0, slots := 0, locals := 80 } [.ref b, .int (nI i)] (jSb b q ml (nI n) :: jAr G q mm a :: wr) (fun o ws => o = some (.int (nI k)) ∧ ws = jSb b q ml (nI n) :: jAr G q mm a :: wr) := by
  refine jof (own := RJ5) hf hGf (by decide) rfl (Nat.le_of_ble_eq_true rfl) ?_
  intro p e s m args below meth c ls C hr hl hP hD hS hXs
  have C' := C
  obtain ⟨hx, hb, hml, hown, hts, hlocks, hst, hG, hPr⟩ := C'
  have hK := hPr.1
  refine lv_aload_n hx hb (show decode cJ5_charAt_5068e 0 = .ok (.aload_n 0, 1) from by decide +kernel) rfl (lv_at hl 0 rfl) ?_
  refine va_get (D := G.2.1) (ci := 9) (C := RJ4) (T := TJ4) (N := 4) hx hb hts j_uw hown hK hP 0 rfl rfl 1 (by decide) (hts _ (jw_at 1 rfl)) (fun _ h9 => h9) rfl (show decode cJ5_charAt_5068e 1 = .ok (.getfield 22, 3) from by decide +kernel) ?_
  refine lv_istore_n hx hb (show decode cJ5_charAt_5068e 4 = .ok (.istore_n 2, 1) from by decide +kernel) rfl hl (by decide) rfl (fun ls hl => ?_)
  refine lv_aload_n hx hb (show decode cJ5_charAt_5068e 5 = .ok (.aload_n 0, 1) from by decide +kernel) rfl (lv_at hl 1 rfl) ?_
  refine va_get (D := G.2.1) (ci := 9) (C := RJ4) (T := TJ4) (N := 4) hx hb hts j_uw hown hK hP 0 rfl rfl 0 (by decide) (hts _ (jw_at 7 rfl)) (fun _ h9 => h9) rfl (show decode cJ5_charAt_5068e 6 = .ok (.getfield 15, 3) from by decide +kernel) ?_
  refine lv_astore_n hx hb (show decode cJ5_charAt_5068e 9 = .ok (.astore_n 3, 1) from by decide +kernel) rfl hl (by decide) rfl (fun ls hl => ?_)
  refine lv_aload_n hx hb (show decode cJ5_charAt_5068e 10 = .ok (.aload_n 0, 1) from by decide +kernel) rfl (lv_at hl 2 rfl) ?_
  refine va_get (D := G.2.1) (ci := 9) (C := RJ4) (T := TJ4) (N := 4) hx hb hts j_uw hown hK hP 0 rfl rfl 3 (by decide) (hts _ (jw_at 30 rfl)) (fun _ h9 => h9) rfl (show decode cJ5_charAt_5068e 11 = .ok (.getfield 79, 3) from by decide +kernel) ?_
  refine lv_aload_n hx hb (show decode cJ5_charAt_5068e 14 = .ok (.aload_n 3, 1) from by decide +kernel) rfl (lv_at hl 0 rfl) ?_
  refine va_alen hx hb hK hP 1 8 rfl (ftys_at G 8 (by decide)) rfl (show decode cJ5_charAt_5068e 15 = .ok (.arraylength, 1) from by decide +kernel) ?_
  refine lv_iload_n hx hb (show decode cJ5_charAt_5068e 16 = .ok (.iload_n 2, 1) from by decide +kernel) rfl (lv_at hl 1 rfl) ?_
  refine lv_ishr hx hb (show decode cJ5_charAt_5068e 17 = .ok (.ishr, 1) from by decide +kernel) ?_
  refine j_top (x' := nI mm) (sb_shr0 _) ?_
  refine va_mmin hx hb (hml.trans hl.1.symm) hown (hts _ (jw_at 63 rfl)) (hts _ (jw_at 15 rfl)) (hts _ (jw_at 4 rfl)) (hts _ (jw_at 16 rfl)) (Nat.le_of_ble_eq_true rfl) (Nat.le_of_ble_eq_true rfl) (Nat.le_of_ble_eq_true rfl) (Nat.le_of_ble_eq_true rfl) (show decode cJ5_charAt_5068e 18 = .ok (.invokestatic 138, 3) from by decide +kernel) ?_
  refine j_top (x' := nI n) (show (if nI mm < nI n then nI mm else nI n) = nI n from if_neg (nI_nlt hn (by omega))) ?_
  refine lv_istore hx hb (show decode cJ5_charAt_5068e 21 = .ok (.istore 4, 2) from by decide +kernel) hl (by decide) rfl (fun ls hl => ?_)
  refine lv_iload_n hx hb (show decode cJ5_charAt_5068e 23 = .ok (.iload_n 1, 1) from by decide +kernel) rfl (lv_at hl 4 rfl) ?_
  refine lv_iload hx hb (show decode cJ5_charAt_5068e 24 = .ok (.iload 4, 2) from by decide +kernel) (lv_at hl 0 rfl) ?_
  refine j_callS (n := 2) C (jc_check hi (by omega) hf hGf) ⟨fun _ _ _ _ h => h, fun _ _ _ => trivial⟩ ⟨(jw_at 64 rfl), (jw_at 65 rfl), (jw_at 66 rfl), (jw_at 67 rfl)⟩ ⟨by decide, by decide, by decide +kernel⟩ ⟨by decide, by decide⟩ hl.1 hP hD hS rfl (Nat.le_of_ble_eq_true rfl) (show decode cJ5_charAt_5068e 26 = .ok (.invokestatic 144, 3) from by decide +kernel) ⟨Nat.le_of_ble_eq_true rfl, Nat.le_of_ble_eq_true rfl⟩ (fun v ws' H locs hv hP hD hS => ?_)
  obtain ⟨rfl, rfl⟩ := hv
  refine lv_iload_n hx hb (show decode cJ5_charAt_5068e 29 = .ok (.iload_n 2, 1) from by decide +kernel) rfl (lv_at hl 2 rfl) ?_
  refine lv_if_ne (tgt := 42) hx hb (show decode cJ5_charAt_5068e 30 = .ok (.ifCond .ne 12, 3) from by decide +kernel) (by decide) (fun h9 => absurd (rfl) h9) (fun _ => ?_)
  refine lv_aload_n hx hb (show decode cJ5_charAt_5068e 33 = .ok (.aload_n 3, 1) from by decide +kernel) rfl (lv_at hl 1 rfl) ?_
  refine lv_iload_n hx hb (show decode cJ5_charAt_5068e 34 = .ok (.iload_n 1, 1) from by decide +kernel) rfl (lv_at hl 4 rfl) ?_
  refine va_bald hx hb hK hP 1 8 rfl (ftys_at G 8 (by decide)) (vp_in_nI (by omega) (by omega)) (show decode cJ5_charAt_5068e 35 = .ok (.baload, 1) from by decide +kernel) ?_
  refine j_top (x' := nI k) (by rw [nI_clamp (by omega)]; exact hk2) ?_
  refine lv_sipush (v := 255) hx hb (show decode cJ5_charAt_5068e 36 = .ok (.sipush 255, 3) from by decide +kernel) (by decide) ?_
  refine lv_iand hx hb (show decode cJ5_charAt_5068e 39 = .ok (.iand, 1) from by decide +kernel) ?_
  refine lv_i2c hx hb (show decode cJ5_charAt_5068e 40 = .ok (.i2c, 1) from by decide +kernel) rfl ?_
  refine j_top (x' := nI k) ((j_by k hk).2.2.1) ?_
  refine W.widen (k := 0) (n := 0) (Nat.le_of_ble_eq_true rfl) (Nat.le_of_ble_eq_true rfl) ?_
  exact fW_zret (v := nI k) (w := nI k) hx hb hr (congrArg Value.int (j_by k hk).2.2.2.2) (fun t ht hW => ⟨⟨_, _, rfl, ⟨rfl, rfl⟩, by rw [ht]; exact hP, hD⟩, hS.F ht⟩) hS.2.2 (show decode cJ5_charAt_5068e 41 = .ok (.ireturn, 1) from by decide +kernel) hlocks
set_option maxRecDepth 4096 in
theorem jc_sbAt {G : fG} {l : Launch} {b q mm n i k : Nat} {ml : Int32} {a : Nat → Int32} {wr : va_W} (hm : mm ≤ 200) (hn : n ≤ mm) (hi : i < n) (hk : k < 128) (hk2 : a i = nI k) (hf : l.stackTraces = false) (hGf : fWf G) : jCX G jT1 l yJ4_charAt_5068e (fw0 yJ4_charAt_5068e cJ4_charAt_5068e 2 (some .char)) { frames := 3, cells := 0, slots := 0, locals := 120 } [.ref b, .int (nI i)] (jSb b q ml (nI n) :: jAr G q mm a :: wr) (fun o ws => o = some (.int (nI k)) ∧ ws = jSb b q ml (nI n) :: jAr G q mm a :: wr) := by
  refine jof (own := RJ4) hf hGf (by decide) rfl (Nat.le_of_ble_eq_true rfl) ?_
  intro p e s m args below meth c ls C hr hl hP hD hS hXs
  have C' := C
  obtain ⟨hx, hb, hml, hown, hts, hlocks, hst, hG, hPr⟩ := C'
  have hK := hPr.1
  refine lv_aload_n hx hb (show decode cJ4_charAt_5068e 0 = .ok (.aload_n 0, 1) from by decide +kernel) rfl (lv_at hl 0 rfl) ?_
  refine lv_iload_n hx hb (show decode cJ4_charAt_5068e 1 = .ok (.iload_n 1, 1) from by decide +kernel) rfl (lv_at hl 1 rfl) ?_
  refine j_callSU (n := 1) C (jc_cha hm hn hi hk hk2 hf hGf) ⟨(jw_at 68 rfl), (jw_at 22 rfl), (jw_at 69 rfl), (jw_at 70 rfl), (jw_at 47 rfl), (jw_at 71 rfl)⟩ (by decide) ⟨by decide, by decide, by decide +kernel⟩ ⟨by decide, by decide⟩ hl.1 hP hD hS 0 rfl rfl (Nat.le_of_ble_eq_true rfl) (show decode cJ4_charAt_5068e 2 = .ok (.invokespecial 329, 3) from by decide +kernel) ⟨Nat.le_of_ble_eq_true rfl, Nat.le_of_ble_eq_true rfl⟩ (fun v ws' H locs hv hP hD hS => ?_)
  obtain ⟨rfl, rfl⟩ := hv
  refine W.widen (k := 0) (n := 0) (Nat.le_of_ble_eq_true rfl) (Nat.le_of_ble_eq_true rfl) ?_
  exact fW_zret (v := nI k) (w := nI k) hx hb hr (congrArg Value.int (j_by k hk).2.2.2.2) (fun t ht hW => ⟨⟨_, _, rfl, ⟨rfl, rfl⟩, by rw [ht]; exact hP, hD⟩, hS.F ht⟩) hS.2.2 (show decode cJ4_charAt_5068e 5 = .ok (.ireturn, 1) from by decide +kernel) hlocks
set_option maxRecDepth 4096 in
theorem jc_ss1 {G : fG} {l : Launch} {k : Nat} {w : va_W} (hk : k < 10) (hf : l.stackTraces = false) (hGf : fWf G) : jCX G jT1 l yJ6_stringSize_0f7a4 (fw0 yJ6_stringSize_0f7a4 cJ6_stringSize_0f7a4 4 (some .int)) { frames := 0, cells := 0, slots := 0, locals := 0 } [.int (nI k)] w (fun o ws => o = some (.int 1) ∧ ws = w) := by
  refine jof (own := RJ6) hf hGf (by decide) rfl (Nat.le_of_ble_eq_true rfl) ?_
  intro p e s m args below meth c ls C hr hl hP hD hS hXs
  have C' := C
  obtain ⟨hx, hb, hml, hown, hts, hlocks, hst, hG, hPr⟩ := C'
  have hK := hPr.1
  refine lv_iconst (v := 1) hx hb (show decode cJ6_stringSize_0f7a4 0 = .ok (.iconst 1, 1) from by decide +kernel) (by decide) ?_
  refine lv_istore_n hx hb (show decode cJ6_stringSize_0f7a4 1 = .ok (.istore_n 1, 1) from by decide +kernel) rfl hl (by decide) rfl (fun ls hl => ?_)
  refine lv_iload_n hx hb (show decode cJ6_stringSize_0f7a4 2 = .ok (.iload_n 0, 1) from by decide +kernel) rfl (lv_at hl 1 rfl) ?_
  refine lv_if_lt (tgt := 11) hx hb (show decode cJ6_stringSize_0f7a4 3 = .ok (.ifCond .lt 8, 3) from by decide +kernel) (by decide) (fun h9 => absurd h9 (nI_pos (by omega))) (fun _ => ?_)
  refine lv_iconst (v := 0) hx hb (show decode cJ6_stringSize_0f7a4 6 = .ok (.iconst 0, 1) from by decide +kernel) (by decide) ?_
  refine lv_istore_n hx hb (show decode cJ6_stringSize_0f7a4 7 = .ok (.istore_n 1, 1) from by decide +kernel) rfl hl (by decide) rfl (fun ls hl => ?_)
  refine lv_iload_n hx hb (show decode cJ6_stringSize_0f7a4 8 = .ok (.iload_n 0, 1) from by decide +kernel) rfl (lv_at hl 1 rfl) ?_
  refine lv_ineg hx hb (show decode cJ6_stringSize_0f7a4 9 = .ok (.ineg, 1) from by decide +kernel) ?_
  refine lv_istore_n hx hb (show decode cJ6_stringSize_0f7a4 10 = .ok (.istore_n 0, 1) from by decide +kernel) rfl hl (by decide) rfl (fun ls hl => ?_)
  refine lv_bipush (v := (-10)) hx hb (show decode cJ6_stringSize_0f7a4 11 = .ok (.bipush (-10), 2) from by decide +kernel) (by decide) ?_
  refine lv_istore_n hx hb (show decode cJ6_stringSize_0f7a4 13 = .ok (.istore_n 2, 1) from by decide +kernel) rfl hl (by decide) rfl (fun ls hl => ?_)
  refine lv_iconst (v := 1) hx hb (show decode cJ6_stringSize_0f7a4 14 = .ok (.iconst 1, 1) from by decide +kernel) (by decide) ?_
  refine lv_istore_n hx hb (show decode cJ6_stringSize_0f7a4 15 = .ok (.istore_n 3, 1) from by decide +kernel) rfl hl (by decide) rfl (fun ls hl => ?_)
  refine lv_iload_n hx hb (show decode cJ6_stringSize_0f7a4 16 = .ok (.iload_n 3, 1) from by decide +kernel) rfl (lv_at hl 0 rfl) ?_
  refine lv_bipush (v := 10) hx hb (show decode cJ6_stringSize_0f7a4 17 = .ok (.bipush 10, 2) from by decide +kernel) (by decide) ?_
  refine lv_icmp_ge (tgt := 42) hx hb (show decode cJ6_stringSize_0f7a4 19 = .ok (.if_icmp .ge 23, 3) from by decide +kernel) (by decide) (fun h9 => absurd h9 (by decide)) (fun _ => ?_)
  refine lv_iload_n hx hb (show decode cJ6_stringSize_0f7a4 22 = .ok (.iload_n 0, 1) from by decide +kernel) rfl (lv_at hl 2 rfl) ?_
  refine lv_iload_n hx hb (show decode cJ6_stringSize_0f7a4 23 = .ok (.iload_n 2, 1) from by decide +kernel) rfl (lv_at hl 1 rfl) ?_
  refine lv_icmp_le (tgt := 31) hx hb (show decode cJ6_stringSize_0f7a4 24 = .ok (.if_icmp .le 7, 3) from by decide +kernel) (by decide) (fun h9 => absurd h9 (j_neg10 k hk)) (fun _ => ?_)
  refine lv_iload_n hx hb (show decode cJ6_stringSize_0f7a4 27 = .ok (.iload_n 3, 1) from by decide +kernel) rfl (lv_at hl 0 rfl) ?_
  refine lv_iload_n hx hb (show decode cJ6_stringSize_0f7a4 28 = .ok (.iload_n 1, 1) from by decide +kernel) rfl (lv_at hl 3 rfl) ?_
  refine lv_iadd hx hb (show decode cJ6_stringSize_0f7a4 29 = .ok (.iadd, 1) from by decide +kernel) ?_
  refine W.widen (k := 0) (n := 0) (Nat.le_of_ble_eq_true rfl) (Nat.le_of_ble_eq_true rfl) ?_
  exact W.iret hx hb hr (fun t ht hW => ⟨⟨_, _, rfl, ⟨by rfl, rfl⟩, by rw [ht]; exact hP, hD⟩, hS.F ht⟩) hS.2.2 (show decode cJ6_stringSize_0f7a4 30 = .ok (.ireturn, 1) from by decide +kernel) hlocks
set_option maxRecDepth 4096 in
theorem jc_ss2 {G : fG} {l : Launch} {k : Nat} {w : va_W} (h : 10 ≤ k) (hk : k < 100) (hf : l.stackTraces = false) (hGf : fWf G) : jCX G jT1 l yJ6_stringSize_0f7a4 (fw0 yJ6_stringSize_0f7a4 cJ6_stringSize_0f7a4 4 (some .int)) { frames := 0, cells := 0, slots := 0, locals := 0 } [.int (nI k)] w (fun o ws => o = some (.int 2) ∧ ws = w) := by
  refine jof (own := RJ6) hf hGf (by decide) rfl (Nat.le_of_ble_eq_true rfl) ?_
  intro p e s m args below meth c ls C hr hl hP hD hS hXs
  have C' := C
  obtain ⟨hx, hb, hml, hown, hts, hlocks, hst, hG, hPr⟩ := C'
  have hK := hPr.1
  refine lv_iconst (v := 1) hx hb (show decode cJ6_stringSize_0f7a4 0 = .ok (.iconst 1, 1) from by decide +kernel) (by decide) ?_
  refine lv_istore_n hx hb (show decode cJ6_stringSize_0f7a4 1 = .ok (.istore_n 1, 1) from by decide +kernel) rfl hl (by decide) rfl (fun ls hl => ?_)
  refine lv_iload_n hx hb (show decode cJ6_stringSize_0f7a4 2 = .ok (.iload_n 0, 1) from by decide +kernel) rfl (lv_at hl 1 rfl) ?_
  refine lv_if_lt (tgt := 11) hx hb (show decode cJ6_stringSize_0f7a4 3 = .ok (.ifCond .lt 8, 3) from by decide +kernel) (by decide) (fun h9 => absurd h9 (nI_pos (by omega))) (fun _ => ?_)
  refine lv_iconst (v := 0) hx hb (show decode cJ6_stringSize_0f7a4 6 = .ok (.iconst 0, 1) from by decide +kernel) (by decide) ?_
  refine lv_istore_n hx hb (show decode cJ6_stringSize_0f7a4 7 = .ok (.istore_n 1, 1) from by decide +kernel) rfl hl (by decide) rfl (fun ls hl => ?_)
  refine lv_iload_n hx hb (show decode cJ6_stringSize_0f7a4 8 = .ok (.iload_n 0, 1) from by decide +kernel) rfl (lv_at hl 1 rfl) ?_
  refine lv_ineg hx hb (show decode cJ6_stringSize_0f7a4 9 = .ok (.ineg, 1) from by decide +kernel) ?_
  refine lv_istore_n hx hb (show decode cJ6_stringSize_0f7a4 10 = .ok (.istore_n 0, 1) from by decide +kernel) rfl hl (by decide) rfl (fun ls hl => ?_)
  refine lv_bipush (v := (-10)) hx hb (show decode cJ6_stringSize_0f7a4 11 = .ok (.bipush (-10), 2) from by decide +kernel) (by decide) ?_
  refine lv_istore_n hx hb (show decode cJ6_stringSize_0f7a4 13 = .ok (.istore_n 2, 1) from by decide +kernel) rfl hl (by decide) rfl (fun ls hl => ?_)
  refine lv_iconst (v := 1) hx hb (show decode cJ6_stringSize_0f7a4 14 = .ok (.iconst 1, 1) from by decide +kernel) (by decide) ?_
  refine lv_istore_n hx hb (show decode cJ6_stringSize_0f7a4 15 = .ok (.istore_n 3, 1) from by decide +kernel) rfl hl (by decide) rfl (fun ls hl => ?_)
  refine lv_iload_n hx hb (show decode cJ6_stringSize_0f7a4 16 = .ok (.iload_n 3, 1) from by decide +kernel) rfl (lv_at hl 0 rfl) ?_
  refine lv_bipush (v := 10) hx hb (show decode cJ6_stringSize_0f7a4 17 = .ok (.bipush 10, 2) from by decide +kernel) (by decide) ?_
  refine lv_icmp_ge (tgt := 42) hx hb (show decode cJ6_stringSize_0f7a4 19 = .ok (.if_icmp .ge 23, 3) from by decide +kernel) (by decide) (fun h9 => absurd h9 (by decide)) (fun _ => ?_)
  refine lv_iload_n hx hb (show decode cJ6_stringSize_0f7a4 22 = .ok (.iload_n 0, 1) from by decide +kernel) rfl (lv_at hl 2 rfl) ?_
  refine lv_iload_n hx hb (show decode cJ6_stringSize_0f7a4 23 = .ok (.iload_n 2, 1) from by decide +kernel) rfl (lv_at hl 1 rfl) ?_
  refine lv_icmp_le (tgt := 31) hx hb (show decode cJ6_stringSize_0f7a4 24 = .ok (.if_icmp .le 7, 3) from by decide +kernel) (by decide) (fun _ => ?_) (fun h9 => absurd (j_neg10T k h hk) h9)
  refine lv_bipush (v := 10) hx hb (show decode cJ6_stringSize_0f7a4 31 = .ok (.bipush 10, 2) from by decide +kernel) (by decide) ?_
  refine lv_iload_n hx hb (show decode cJ6_stringSize_0f7a4 33 = .ok (.iload_n 2, 1) from by decide +kernel) rfl (lv_at hl 1 rfl) ?_
  refine lv_imul hx hb (show decode cJ6_stringSize_0f7a4 34 = .ok (.imul, 1) from by decide +kernel) ?_
  refine lv_istore_n hx hb (show decode cJ6_stringSize_0f7a4 35 = .ok (.istore_n 2, 1) from by decide +kernel) rfl hl (by decide) rfl (fun ls hl => ?_)
  refine lv_iinc hx hb (show decode cJ6_stringSize_0f7a4 36 = .ok (.iinc 3 1, 3) from by decide +kernel) hl (k := 1) rfl rfl (by decide) rfl (fun ls hl => ?_)
  refine lv_goto (tgt := 16) hx hb (show decode cJ6_stringSize_0f7a4 39 = .ok (.goto (-23), 3) from by decide +kernel) (by decide) ?_
  refine lv_iload_n hx hb (show decode cJ6_stringSize_0f7a4 16 = .ok (.iload_n 3, 1) from by decide +kernel) rfl (lv_at hl 0 rfl) ?_
  refine lv_bipush (v := 10) hx hb (show decode cJ6_stringSize_0f7a4 17 = .ok (.bipush 10, 2) from by decide +kernel) (by decide) ?_
  refine lv_icmp_ge (tgt := 42) hx hb (show decode cJ6_stringSize_0f7a4 19 = .ok (.if_icmp .ge 23, 3) from by decide +kernel) (by decide) (fun h9 => absurd h9 (by decide)) (fun _ => ?_)
  refine lv_iload_n hx hb (show decode cJ6_stringSize_0f7a4 22 = .ok (.iload_n 0, 1) from by decide +kernel) rfl (lv_at hl 2 rfl) ?_
  refine lv_iload_n hx hb (show decode cJ6_stringSize_0f7a4 23 = .ok (.iload_n 2, 1) from by decide +kernel) rfl (lv_at hl 1 rfl) ?_
  refine lv_icmp_le (tgt := 31) hx hb (show decode cJ6_stringSize_0f7a4 24 = .ok (.if_icmp .le 7, 3) from by decide +kernel) (by decide) (fun h9 => absurd h9 (j_neg100 k hk)) (fun _ => ?_)
  refine lv_iload_n hx hb (show decode cJ6_stringSize_0f7a4 27 = .ok (.iload_n 3, 1) from by decide +kernel) rfl (lv_at hl 0 rfl) ?_
  refine lv_iload_n hx hb (show decode cJ6_stringSize_0f7a4 28 = .ok (.iload_n 1, 1) from by decide +kernel) rfl (lv_at hl 3 rfl) ?_
  refine lv_iadd hx hb (show decode cJ6_stringSize_0f7a4 29 = .ok (.iadd, 1) from by decide +kernel) ?_
  refine W.widen (k := 0) (n := 0) (Nat.le_of_ble_eq_true rfl) (Nat.le_of_ble_eq_true rfl) ?_
  exact W.iret hx hb hr (fun t ht hW => ⟨⟨_, _, rfl, ⟨by rfl, rfl⟩, by rw [ht]; exact hP, hD⟩, hS.F ht⟩) hS.2.2 (show decode cJ6_stringSize_0f7a4 30 = .ok (.ireturn, 1) from by decide +kernel) hlocks
set_option maxRecDepth 4096 in
theorem jc_gc1 {G : fG} {l : Launch} {q mm n k : Nat} {a : Nat → Int32} {wr : va_W} (hm : mm ≤ 200) (hn : n + 1 ≤ mm) (hk : k < 10) (hf : l.stackTraces = false) (hGf : fWf G) : jCX G jT1 l yJ6_getChars_ba4f3 (fw0 yJ6_getChars_ba4f3 cJ6_getChars_ba4f3 7 (some .int)) { frames := 0, cells := 0, slots := 0, locals := 0 } [.int (nI k), .int (nI (n + 1)), .ref q] (jAr G q mm a :: wr) (fun o ws => ∃ z : Int32, o = some (.int z) ∧ ws = jAr G q mm (upd a n (nI (48 + k % 10))) :: wr) := by
  refine jof (own := RJ6) hf hGf (by decide) rfl (Nat.le_of_ble_eq_true rfl) ?_
  intro p e s m args below meth c ls C hr hl hP hD hS hXs
  have C' := C
  obtain ⟨hx, hb, hml, hown, hts, hlocks, hst, hG, hPr⟩ := C'
  have hK := hPr.1
  obtain ⟨t1, hz1, ht1⟩ := hPr.2.2.2.2.2.2.2.2.2.1
  obtain ⟨t2, hz2, ht2⟩ := hPr.2.2.2.2.2.2.2.2.2.2.1
  refine lv_iload_n hx hb (show decode cJ6_getChars_ba4f3 0 = .ok (.iload_n 1, 1) from by decide +kernel) rfl (lv_at hl 1 rfl) ?_
  refine lv_istore hx hb (show decode cJ6_getChars_ba4f3 1 = .ok (.istore 5, 2) from by decide +kernel) hl (by decide) rfl (fun ls hl => ?_)
  refine lv_iload_n hx hb (show decode cJ6_getChars_ba4f3 3 = .ok (.iload_n 0, 1) from by decide +kernel) rfl (lv_at hl 1 rfl) ?_
  refine lv_if_ge (tgt := 11) hx hb (show decode cJ6_getChars_ba4f3 4 = .ok (.ifCond .ge 7, 3) from by decide +kernel) (by decide) (fun _ => ?_) (fun h9 => absurd (j_0le (by omega)) h9)
  refine lv_iconst (v := 0) hx hb (show decode cJ6_getChars_ba4f3 11 = .ok (.iconst 0, 1) from by decide +kernel) (by decide) ?_
  refine lv_istore hx hb (show decode cJ6_getChars_ba4f3 12 = .ok (.istore 6, 2) from by decide +kernel) hl (by decide) rfl (fun ls hl => ?_)
  refine lv_iload hx hb (show decode cJ6_getChars_ba4f3 14 = .ok (.iload 6, 2) from by decide +kernel) (lv_at hl 0 rfl) ?_
  refine lv_if_ne (tgt := 22) hx hb (show decode cJ6_getChars_ba4f3 16 = .ok (.ifCond .ne 6, 3) from by decide +kernel) (by decide) (fun h9 => absurd (rfl) h9) (fun _ => ?_)
  refine lv_iload_n hx hb (show decode cJ6_getChars_ba4f3 19 = .ok (.iload_n 0, 1) from by decide +kernel) rfl (lv_at hl 2 rfl) ?_
  refine lv_ineg hx hb (show decode cJ6_getChars_ba4f3 20 = .ok (.ineg, 1) from by decide +kernel) ?_
  refine lv_istore_n hx hb (show decode cJ6_getChars_ba4f3 21 = .ok (.istore_n 0, 1) from by decide +kernel) rfl hl (by decide) rfl (fun ls hl => ?_)
  refine lv_iload_n hx hb (show decode cJ6_getChars_ba4f3 22 = .ok (.iload_n 0, 1) from by decide +kernel) rfl (lv_at hl 0 rfl) ?_
  refine lv_bipush (v := (-100)) hx hb (show decode cJ6_getChars_ba4f3 23 = .ok (.bipush (-100), 2) from by decide +kernel) (by decide) ?_
  refine lv_icmp_gt (tgt := 72) hx hb (show decode cJ6_getChars_ba4f3 25 = .ok (.if_icmp .gt 47, 3) from by decide +kernel) (by decide) (fun _ => ?_) (fun h9 => absurd (j_m100 k (by omega)) h9)
  refine lv_aload_n hx hb (show decode cJ6_getChars_ba4f3 72 = .ok (.aload_n 2, 1) from by decide +kernel) rfl (lv_at hl 4 rfl) ?_
  refine lv_iinc (v := nI (n)) hx hb (show decode cJ6_getChars_ba4f3 73 = .ok (.iinc 5 (-1), 3) from by decide +kernel) hl (k := 2) rfl (j_dec _ (by omega)) (by decide) rfl (fun ls hl => ?_)
  refine lv_iload hx hb (show decode cJ6_getChars_ba4f3 76 = .ok (.iload 5, 2) from by decide +kernel) (lv_at hl 0 rfl) ?_
  refine va_gets hx hb hz1 hS hown (hts _ (jw_at 72 rfl)) (fun _ h9 => h9) (show decode cJ6_getChars_ba4f3 78 = .ok (.getstatic 83, 3) from by decide +kernel) ?_
  refine lv_iload_n hx hb (show decode cJ6_getChars_ba4f3 81 = .ok (.iload_n 0, 1) from by decide +kernel) rfl (lv_at hl 1 rfl) ?_
  refine lv_ineg hx hb (show decode cJ6_getChars_ba4f3 82 = .ok (.ineg, 1) from by decide +kernel) ?_
  refine j_top (x' := nI k) (j_nn k (by omega)) ?_
  refine va_tb hx hb ht1 hS (vp_in_nI (by omega) (by omega)) rfl (show decode cJ6_getChars_ba4f3 83 = .ok (.baload, 1) from by decide +kernel) ?_
  refine va_bast hx hb hK hP hD hS 0 8 rfl (ftys_at G 8 (by decide)) (vp_in_nI (by omega) (by omega)) (show decode cJ6_getChars_ba4f3 84 = .ok (.bastore, 1) from by decide +kernel) (fun H locs hP hD hS => ?_)
  rw [nI_clamp (by omega), nI_clamp (by omega), (j_by _ (by omega)).2.1] at hP hD
  have hP : va_P G.2.1 fcl (jAr G q mm (upd (a) (n) (nI (48 + k % 10))) :: wr) H := hP
  have hD : va_D (fA G) (jAr G q mm (upd (a) (n) (nI (48 + k % 10))) :: wr) := hD
  refine lv_iload_n hx hb (show decode cJ6_getChars_ba4f3 85 = .ok (.iload_n 0, 1) from by decide +kernel) rfl (lv_at hl 1 rfl) ?_
  refine lv_bipush (v := (-9)) hx hb (show decode cJ6_getChars_ba4f3 86 = .ok (.bipush (-9), 2) from by decide +kernel) (by decide) ?_
  refine lv_icmp_ge (tgt := 104) hx hb (show decode cJ6_getChars_ba4f3 88 = .ok (.if_icmp .ge 16, 3) from by decide +kernel) (by decide) (fun _ => ?_) (fun h9 => absurd (j_m9T k hk) h9)
  refine lv_iload hx hb (show decode cJ6_getChars_ba4f3 104 = .ok (.iload 6, 2) from by decide +kernel) (lv_at hl 2 rfl) ?_
  refine lv_if_eq (tgt := 118) hx hb (show decode cJ6_getChars_ba4f3 106 = .ok (.ifCond .eq 12, 3) from by decide +kernel) (by decide) (fun _ => ?_) (fun h9 => absurd (rfl) h9)
  refine lv_iload hx hb (show decode cJ6_getChars_ba4f3 118 = .ok (.iload 5, 2) from by decide +kernel) (lv_at hl 0 rfl) ?_
  refine W.widen (k := 0) (n := 0) (Nat.le_of_ble_eq_true rfl) (Nat.le_of_ble_eq_true rfl) ?_
  exact W.iret hx hb hr (fun t ht hW => ⟨⟨_, _, rfl, ⟨_, rfl, rfl⟩, by rw [ht]; exact hP, hD⟩, hS.F ht⟩) hS.2.2 (show decode cJ6_getChars_ba4f3 120 = .ok (.ireturn, 1) from by decide +kernel) hlocks
set_option maxRecDepth 4096 in
theorem jc_gc2 {G : fG} {l : Launch} {q mm n k : Nat} {a : Nat → Int32} {wr : va_W} (hm : mm ≤ 200) (hn : n + 2 ≤ mm) (h : 10 ≤ k) (hk : k < 100) (hf : l.stackTraces = false) (hGf : fWf G) : jCX G jT1 l yJ6_getChars_ba4f3 (fw0 yJ6_getChars_ba4f3 cJ6_getChars_ba4f3 7 (some .int)) { frames := 0, cells := 0, slots := 0, locals := 0 } [.int (nI k), .int (nI (n + 2)), .ref q] (jAr G q mm a :: wr) (fun o ws => ∃ z : Int32, o = some (.int z) ∧ ws = jAr G q mm (upd (upd a (n + 1) (nI (48 + k % 10))) n (nI (48 + k / 10))) :: wr) := by
  refine jof (own := RJ6) hf hGf (by decide) rfl (Nat.le_of_ble_eq_true rfl) ?_
  intro p e s m args below meth c ls C hr hl hP hD hS hXs
  have C' := C
  obtain ⟨hx, hb, hml, hown, hts, hlocks, hst, hG, hPr⟩ := C'
  have hK := hPr.1
  obtain ⟨t1, hz1, ht1⟩ := hPr.2.2.2.2.2.2.2.2.2.1
  obtain ⟨t2, hz2, ht2⟩ := hPr.2.2.2.2.2.2.2.2.2.2.1
  refine lv_iload_n hx hb (show decode cJ6_getChars_ba4f3 0 = .ok (.iload_n 1, 1) from by decide +kernel) rfl (lv_at hl 1 rfl) ?_
  refine lv_istore hx hb (show decode cJ6_getChars_ba4f3 1 = .ok (.istore 5, 2) from by decide +kernel) hl (by decide) rfl (fun ls hl => ?_)
  refine lv_iload_n hx hb (show decode cJ6_getChars_ba4f3 3 = .ok (.iload_n 0, 1) from by decide +kernel) rfl (lv_at hl 1 rfl) ?_
  refine lv_if_ge (tgt := 11) hx hb (show decode cJ6_getChars_ba4f3 4 = .ok (.ifCond .ge 7, 3) from by decide +kernel) (by decide) (fun _ => ?_) (fun h9 => absurd (j_0le (by omega)) h9)
  refine lv_iconst (v := 0) hx hb (show decode cJ6_getChars_ba4f3 11 = .ok (.iconst 0, 1) from by decide +kernel) (by decide) ?_
  refine lv_istore hx hb (show decode cJ6_getChars_ba4f3 12 = .ok (.istore 6, 2) from by decide +kernel) hl (by decide) rfl (fun ls hl => ?_)
  refine lv_iload hx hb (show decode cJ6_getChars_ba4f3 14 = .ok (.iload 6, 2) from by decide +kernel) (lv_at hl 0 rfl) ?_
  refine lv_if_ne (tgt := 22) hx hb (show decode cJ6_getChars_ba4f3 16 = .ok (.ifCond .ne 6, 3) from by decide +kernel) (by decide) (fun h9 => absurd (rfl) h9) (fun _ => ?_)
  refine lv_iload_n hx hb (show decode cJ6_getChars_ba4f3 19 = .ok (.iload_n 0, 1) from by decide +kernel) rfl (lv_at hl 2 rfl) ?_
  refine lv_ineg hx hb (show decode cJ6_getChars_ba4f3 20 = .ok (.ineg, 1) from by decide +kernel) ?_
  refine lv_istore_n hx hb (show decode cJ6_getChars_ba4f3 21 = .ok (.istore_n 0, 1) from by decide +kernel) rfl hl (by decide) rfl (fun ls hl => ?_)
  refine lv_iload_n hx hb (show decode cJ6_getChars_ba4f3 22 = .ok (.iload_n 0, 1) from by decide +kernel) rfl (lv_at hl 0 rfl) ?_
  refine lv_bipush (v := (-100)) hx hb (show decode cJ6_getChars_ba4f3 23 = .ok (.bipush (-100), 2) from by decide +kernel) (by decide) ?_
  refine lv_icmp_gt (tgt := 72) hx hb (show decode cJ6_getChars_ba4f3 25 = .ok (.if_icmp .gt 47, 3) from by decide +kernel) (by decide) (fun _ => ?_) (fun h9 => absurd (j_m100 k (by omega)) h9)
  refine lv_aload_n hx hb (show decode cJ6_getChars_ba4f3 72 = .ok (.aload_n 2, 1) from by decide +kernel) rfl (lv_at hl 4 rfl) ?_
  refine lv_iinc (v := nI (n + 1)) hx hb (show decode cJ6_getChars_ba4f3 73 = .ok (.iinc 5 (-1), 3) from by decide +kernel) hl (k := 2) rfl (j_dec _ (by omega)) (by decide) rfl (fun ls hl => ?_)
  refine lv_iload hx hb (show decode cJ6_getChars_ba4f3 76 = .ok (.iload 5, 2) from by decide +kernel) (lv_at hl 0 rfl) ?_
  refine va_gets hx hb hz1 hS hown (hts _ (jw_at 72 rfl)) (fun _ h9 => h9) (show decode cJ6_getChars_ba4f3 78 = .ok (.getstatic 83, 3) from by decide +kernel) ?_
  refine lv_iload_n hx hb (show decode cJ6_getChars_ba4f3 81 = .ok (.iload_n 0, 1) from by decide +kernel) rfl (lv_at hl 1 rfl) ?_
  refine lv_ineg hx hb (show decode cJ6_getChars_ba4f3 82 = .ok (.ineg, 1) from by decide +kernel) ?_
  refine j_top (x' := nI k) (j_nn k (by omega)) ?_
  refine va_tb hx hb ht1 hS (vp_in_nI (by omega) (by omega)) rfl (show decode cJ6_getChars_ba4f3 83 = .ok (.baload, 1) from by decide +kernel) ?_
  refine va_bast hx hb hK hP hD hS 0 8 rfl (ftys_at G 8 (by decide)) (vp_in_nI (by omega) (by omega)) (show decode cJ6_getChars_ba4f3 84 = .ok (.bastore, 1) from by decide +kernel) (fun H locs hP hD hS => ?_)
  rw [nI_clamp (by omega), nI_clamp (by omega), (j_by _ (by omega)).2.1] at hP hD
  have hP : va_P G.2.1 fcl (jAr G q mm (upd (a) (n + 1) (nI (48 + k % 10))) :: wr) H := hP
  have hD : va_D (fA G) (jAr G q mm (upd (a) (n + 1) (nI (48 + k % 10))) :: wr) := hD
  refine lv_iload_n hx hb (show decode cJ6_getChars_ba4f3 85 = .ok (.iload_n 0, 1) from by decide +kernel) rfl (lv_at hl 1 rfl) ?_
  refine lv_bipush (v := (-9)) hx hb (show decode cJ6_getChars_ba4f3 86 = .ok (.bipush (-9), 2) from by decide +kernel) (by decide) ?_
  refine lv_icmp_ge (tgt := 104) hx hb (show decode cJ6_getChars_ba4f3 88 = .ok (.if_icmp .ge 16, 3) from by decide +kernel) (by decide) (fun h9 => absurd h9 (j_m9F k h (by omega))) (fun _ => ?_)
  refine lv_aload_n hx hb (show decode cJ6_getChars_ba4f3 91 = .ok (.aload_n 2, 1) from by decide +kernel) rfl (lv_at hl 4 rfl) ?_
  refine lv_iinc (v := nI n) hx hb (show decode cJ6_getChars_ba4f3 92 = .ok (.iinc 5 (-1), 3) from by decide +kernel) hl (k := 0) rfl (j_dec n (by omega)) (by decide) rfl (fun ls hl => ?_)
  refine lv_iload hx hb (show decode cJ6_getChars_ba4f3 95 = .ok (.iload 5, 2) from by decide +kernel) (lv_at hl 0 rfl) ?_
  refine va_gets hx hb hz2 hS hown (hts _ (jw_at 73 rfl)) (fun _ h9 => h9) (show decode cJ6_getChars_ba4f3 97 = .ok (.getstatic 87, 3) from by decide +kernel) ?_
  refine lv_iload_n hx hb (show decode cJ6_getChars_ba4f3 100 = .ok (.iload_n 0, 1) from by decide +kernel) rfl (lv_at hl 1 rfl) ?_
  refine lv_ineg hx hb (show decode cJ6_getChars_ba4f3 101 = .ok (.ineg, 1) from by decide +kernel) ?_
  refine j_top (x' := nI k) (j_nn k (by omega)) ?_
  refine va_tb hx hb ht2 hS (vp_in_nI (by omega) (by omega)) rfl (show decode cJ6_getChars_ba4f3 102 = .ok (.baload, 1) from by decide +kernel) ?_
  refine va_bast hx hb hK hP hD hS 0 8 rfl (ftys_at G 8 (by decide)) (vp_in_nI (by omega) (by omega)) (show decode cJ6_getChars_ba4f3 103 = .ok (.bastore, 1) from by decide +kernel) (fun H locs hP hD hS => ?_)
  rw [nI_clamp (by omega), nI_clamp (by omega), (j_by _ (by omega)).2.1] at hP hD
  have hP : va_P G.2.1 fcl (jAr G q mm (upd (upd a (n + 1) (nI (48 + k % 10))) (n) (nI (48 + k / 10))) :: wr) H := hP
  have hD : va_D (fA G) (jAr G q mm (upd (upd a (n + 1) (nI (48 + k % 10))) (n) (nI (48 + k / 10))) :: wr) := hD
  refine lv_iload hx hb (show decode cJ6_getChars_ba4f3 104 = .ok (.iload 6, 2) from by decide +kernel) (lv_at hl 2 rfl) ?_
  refine lv_if_eq (tgt := 118) hx hb (show decode cJ6_getChars_ba4f3 106 = .ok (.ifCond .eq 12, 3) from by decide +kernel) (by decide) (fun _ => ?_) (fun h9 => absurd (rfl) h9)
  refine lv_iload hx hb (show decode cJ6_getChars_ba4f3 118 = .ok (.iload 5, 2) from by decide +kernel) (lv_at hl 0 rfl) ?_
  refine W.widen (k := 0) (n := 0) (Nat.le_of_ble_eq_true rfl) (Nat.le_of_ble_eq_true rfl) ?_
  exact W.iret hx hb hr (fun t ht hW => ⟨⟨_, _, rfl, ⟨_, rfl, rfl⟩, by rw [ht]; exact hP, hD⟩, hS.F ht⟩) hS.2.2 (show decode cJ6_getChars_ba4f3 120 = .ok (.ireturn, 1) from by decide +kernel) hlocks
set_option maxRecDepth 4096 in
theorem jc_appI1 {G : fG} {l : Launch} {b q mm k n : Nat} {ml : Int32} {a : Nat → Int32} {wr : va_W} (hm : mm ≤ 200) (hn : n ≤ mm) (hn1 : n < 92) (hfa : sb_Fit a) (hk : k < 10) (hf : l.stackTraces = false) (hGf : fWf G) : jCX G jT1 l yJ5_append_c97b9 (fw0 yJ5_append_c97b9 cJ5_append_c97b9 4 (some (.object "java/lang/AbstractStringBuilder"))) { frames := 4, cells := 1, slots := 200, locals := 180 } [.ref b, .int (nI k)] (jSb b q ml (nI n) :: jAr G q mm a :: wr) (fun o ws => o = some (.ref b) ∧ ∃ (q' m' : Nat) (a' : Nat → Int32), ws = jSb b q' ml (nI (n + 1)) :: jAr G q' m' a' :: wr ∧ n + 1 ≤ m' ∧ m' ≤ 200 ∧ sb_Fit a' ∧ a' n = nI (48 + k % 10) ∧ ∀ j, j < n → a' j = a j) := by
  refine jof (own := RJ5) hf hGf (by decide) rfl (Nat.le_of_ble_eq_true rfl) ?_
  intro p e s m args below meth c ls C hr hl hP hD hS hXs
  have C' := C
  obtain ⟨hx, hb, hml, hown, hts, hlocks, hst, hG, hPr⟩ := C'
  have hK := hPr.1
  refine lv_aload_n hx hb (show decode cJ5_append_c97b9 0 = .ok (.aload_n 0, 1) from by decide +kernel) rfl (lv_at hl 0 rfl) ?_
  refine va_get (D := G.2.1) (ci := 9) (C := RJ4) (T := TJ4) (N := 4) hx hb hts j_uw hown hK hP 0 rfl rfl 3 (by decide) (hts _ (jw_at 30 rfl)) (fun _ h9 => h9) rfl (show decode cJ5_append_c97b9 1 = .ok (.getfield 79, 3) from by decide +kernel) ?_
  refine lv_istore_n hx hb (show decode cJ5_append_c97b9 4 = .ok (.istore_n 2, 1) from by decide +kernel) rfl hl (by decide) rfl (fun ls hl => ?_)
  refine lv_iload_n hx hb (show decode cJ5_append_c97b9 5 = .ok (.iload_n 2, 1) from by decide +kernel) rfl (lv_at hl 0 rfl) ?_
  refine lv_iload_n hx hb (show decode cJ5_append_c97b9 6 = .ok (.iload_n 1, 1) from by decide +kernel) rfl (lv_at hl 2 rfl) ?_
  refine j_callS (n := 1) C (jc_ss1 hk hf hGf) ⟨fun _ _ _ _ h => h, fun _ _ _ => trivial⟩ ⟨(jw_at 74 rfl), (jw_at 75 rfl), (jw_at 76 rfl), (jw_at 77 rfl)⟩ ⟨by decide, by decide, by decide +kernel⟩ ⟨by decide, by decide⟩ hl.1 hP hD hS rfl (Nat.le_of_ble_eq_true rfl) (show decode cJ5_append_c97b9 7 = .ok (.invokestatic 245, 3) from by decide +kernel) ⟨Nat.le_of_ble_eq_true rfl, Nat.le_of_ble_eq_true rfl⟩ (fun v ws' H locs hv hP hD hS => ?_)
  obtain ⟨rfl, rfl⟩ := hv
  refine lv_iadd hx hb (show decode cJ5_append_c97b9 10 = .ok (.iadd, 1) from by decide +kernel) ?_
  refine j_top (x' := nI (n + 1)) (nI_add n 1) ?_
  refine lv_istore_n hx hb (show decode cJ5_append_c97b9 11 = .ok (.istore_n 3, 1) from by decide +kernel) rfl hl (by decide) rfl (fun ls hl => ?_)
  refine lv_aload_n hx hb (show decode cJ5_append_c97b9 12 = .ok (.aload_n 0, 1) from by decide +kernel) rfl (lv_at hl 2 rfl) ?_
  refine lv_iload_n hx hb (show decode cJ5_append_c97b9 13 = .ok (.iload_n 3, 1) from by decide +kernel) rfl (lv_at hl 0 rfl) ?_
  refine j_callU (n := 1) C (jc_eci (k := n + 1) hm (by omega) hfa hf hGf) ⟨(jw_at 31 rfl), (jw_at 22 rfl), (jw_at 32 rfl), (jw_at 33 rfl), (jw_at 34 rfl)⟩ ((jX_of hPr).2.1 _ List.mem_cons_self) ⟨by decide, by decide, by decide +kernel⟩ ⟨by decide, by decide⟩ hl.1 hP hD hS 0 rfl rfl (Nat.le_of_ble_eq_true rfl) (show decode cJ5_append_c97b9 14 = .ok (.invokevirtual 100, 3) from by decide +kernel) ⟨Nat.le_of_ble_eq_true rfl, Nat.le_of_ble_eq_true rfl⟩ (fun v ws' H locs hv hP hD hS => ?_)
  obtain ⟨rfl, q2, m2, a2, rfl, h1, h2, h3, h4, h5⟩ := hv
  refine lv_aload_n hx hb (show decode cJ5_append_c97b9 17 = .ok (.aload_n 0, 1) from by decide +kernel) rfl (lv_at hl 2 rfl) ?_
  refine j_callU (n := 0) C (jc_isLatin1 hf hGf) ⟨(jw_at 36 rfl), (jw_at 22 rfl), (jw_at 37 rfl), (jw_at 38 rfl), (jw_at 39 rfl)⟩ (hts _ (jw_at 35 rfl)) ⟨by decide, by decide, by decide +kernel⟩ ⟨by decide, by decide⟩ hl.1 hP hD hS 0 rfl rfl (Nat.le_of_ble_eq_true rfl) (show decode cJ5_append_c97b9 18 = .ok (.invokevirtual 83, 3) from by decide +kernel) ⟨Nat.le_of_ble_eq_true rfl, Nat.le_of_ble_eq_true rfl⟩ (fun v ws' H locs hv hP hD hS => ?_)
  obtain ⟨rfl, rfl⟩ := hv
  refine lv_if_eq (tgt := 37) hx hb (show decode cJ5_append_c97b9 21 = .ok (.ifCond .eq 16, 3) from by decide +kernel) (by decide) (fun h9 => absurd h9 (by decide)) (fun _ => ?_)
  refine lv_iload_n hx hb (show decode cJ5_append_c97b9 24 = .ok (.iload_n 1, 1) from by decide +kernel) rfl (lv_at hl 3 rfl) ?_
  refine lv_iload_n hx hb (show decode cJ5_append_c97b9 25 = .ok (.iload_n 3, 1) from by decide +kernel) rfl (lv_at hl 0 rfl) ?_
  refine lv_aload_n hx hb (show decode cJ5_append_c97b9 26 = .ok (.aload_n 0, 1) from by decide +kernel) rfl (lv_at hl 2 rfl) ?_
  refine va_get (D := G.2.1) (ci := 9) (C := RJ4) (T := TJ4) (N := 4) hx hb hts j_uw hown hK hP 0 rfl rfl 0 (by decide) (hts _ (jw_at 7 rfl)) (fun _ h9 => h9) rfl (show decode cJ5_append_c97b9 27 = .ok (.getfield 15, 3) from by decide +kernel) ?_
  have hP := j_P2 hP
  have hD := j_D2 hD
  refine j_callS (n := 3) C (jc_gc1 h2 h1 hk hf hGf) ⟨fun _ _ _ _ h => h, fun _ _ _ => trivial⟩ ⟨(jw_at 78 rfl), (jw_at 75 rfl), (jw_at 79 rfl), (jw_at 80 rfl)⟩ ⟨by decide, by decide, by decide +kernel⟩ ⟨by decide, by decide⟩ hl.1 hP hD hS rfl (Nat.le_of_ble_eq_true rfl) (show decode cJ5_append_c97b9 30 = .ok (.invokestatic 248, 3) from by decide +kernel) ⟨Nat.le_of_ble_eq_true rfl, Nat.le_of_ble_eq_true rfl⟩ (fun v ws' H locs hv hP hD hS => ?_)
  obtain ⟨z, rfl, rfl⟩ := hv
  have hP := j_P2 hP
  have hD := j_D2 hD
  refine lv_pop hx hb (show decode cJ5_append_c97b9 33 = .ok (.pop, 1) from by decide +kernel) rfl ?_
  refine lv_goto (tgt := 48) hx hb (show decode cJ5_append_c97b9 34 = .ok (.goto 14, 3) from by decide +kernel) (by decide) ?_
  refine lv_aload_n hx hb (show decode cJ5_append_c97b9 48 = .ok (.aload_n 0, 1) from by decide +kernel) rfl (lv_at hl 2 rfl) ?_
  refine lv_iload_n hx hb (show decode cJ5_append_c97b9 49 = .ok (.iload_n 3, 1) from by decide +kernel) rfl (lv_at hl 0 rfl) ?_
  refine va_put (D := G.2.1) (ci := 9) (C := RJ4) (T := TJ4) (N := 4) (ty := tyJ4 3) hx hb hts j_uw tyJ4 tyJ4_ok nmJ4 hown hK hP hD hS 0 rfl rfl 3 (by decide) (hts _ (jw_at 30 rfl)) (fun _ h9 => h9) rfl (by decide +kernel) rfl rfl (Nat.le_of_ble_eq_true rfl) (show decode cJ5_append_c97b9 50 = .ok (.putfield 79, 3) from by decide +kernel) (fun H locs hP hD hS => ?_)
  have hP : va_P G.2.1 fcl (jSb b q2 ml (nI (n + 1)) :: jAr G q2 m2 (upd a2 n (nI (48 + k % 10))) :: wr) H := hP
  have hD : va_D (fA G) (jSb b q2 ml (nI (n + 1)) :: jAr G q2 m2 (upd a2 n (nI (48 + k % 10))) :: wr) := hD
  refine lv_aload_n hx hb (show decode cJ5_append_c97b9 53 = .ok (.aload_n 0, 1) from by decide +kernel) rfl (lv_at hl 2 rfl) ?_
  refine W.widen (k := 1) (n := 200) (Nat.le_of_ble_eq_true rfl) (Nat.le_of_ble_eq_true rfl) ?_
  exact W.aret hx hb hr (Or.inl ⟨_, rfl⟩) (Or.inr ⟨_, rfl⟩) (fun t ht hW => ⟨⟨_, _, rfl, ⟨rfl, q2, m2, _, rfl, h1, h2, sb_fitU h4 (j_by _ (by omega)).2.2.2.1, pk_us, fun j hj => (pk_un (by omega)).trans (h5 j (by omega))⟩, by rw [ht]; exact hP, hD⟩, hS.F ht⟩) hS.2.2 (show decode cJ5_append_c97b9 54 = .ok (.areturn, 1) from by decide +kernel) hlocks
set_option maxRecDepth 4096 in
theorem jc_sbI1 {G : fG} {l : Launch} {b q mm k n : Nat} {ml : Int32} {a : Nat → Int32} {wr : va_W} (hm : mm ≤ 200) (hn : n ≤ mm) (hn1 : n < 92) (hfa : sb_Fit a) (hk : k < 10) (hf : l.stackTraces = false) (hGf : fWf G) : jCX G jT1 l yJ4_append_bf812 (fw0 yJ4_append_bf812 cJ4_append_bf812 2 (some (.object "java/lang/StringBuilder"))) { frames := 5, cells := 1, slots := 200, locals := 220 } [.ref b, .int (nI k)] (jSb b q ml (nI n) :: jAr G q mm a :: wr) (fun o ws => o = some (.ref b) ∧ ∃ (q' m' : Nat) (a' : Nat → Int32), ws = jSb b q' ml (nI (n + 1)) :: jAr G q' m' a' :: wr ∧ n + 1 ≤ m' ∧ m' ≤ 200 ∧ sb_Fit a' ∧ a' n = nI (48 + k % 10) ∧ ∀ j, j < n → a' j = a j) := by
  refine jof (own := RJ4) hf hGf (by decide) rfl (Nat.le_of_ble_eq_true rfl) ?_
  intro p e s m args below meth c ls C hr hl hP hD hS hXs
  have C' := C
  obtain ⟨hx, hb, hml, hown, hts, hlocks, hst, hG, hPr⟩ := C'
  have hK := hPr.1
  refine lv_aload_n hx hb (show decode cJ4_append_bf812 0 = .ok (.aload_n 0, 1) from by decide +kernel) rfl (lv_at hl 0 rfl) ?_
  refine lv_iload_n hx hb (show decode cJ4_append_bf812 1 = .ok (.iload_n 1, 1) from by decide +kernel) rfl (lv_at hl 1 rfl) ?_
  refine j_callSU (n := 1) C (jc_appI1 hm hn hn1 hfa hk hf hGf) ⟨(jw_at 81 rfl), (jw_at 22 rfl), (jw_at 82 rfl), (jw_at 83 rfl), (jw_at 47 rfl), (jw_at 84 rfl)⟩ (by decide) ⟨by decide, by decide, by decide +kernel⟩ ⟨by decide, by decide⟩ hl.1 hP hD hS 0 rfl rfl (Nat.le_of_ble_eq_true rfl) (show decode cJ4_append_bf812 2 = .ok (.invokespecial 53, 3) from by decide +kernel) ⟨Nat.le_of_ble_eq_true rfl, Nat.le_of_ble_eq_true rfl⟩ (fun v ws' H locs hv hP hD hS => ?_)
  obtain ⟨rfl, q2, m2, a2, rfl, hv⟩ := hv
  refine lv_pop hx hb (show decode cJ4_append_bf812 5 = .ok (.pop, 1) from by decide +kernel) rfl ?_
  refine lv_aload_n hx hb (show decode cJ4_append_bf812 6 = .ok (.aload_n 0, 1) from by decide +kernel) rfl (lv_at hl 0 rfl) ?_
  refine W.widen (k := 1) (n := 200) (Nat.le_of_ble_eq_true rfl) (Nat.le_of_ble_eq_true rfl) ?_
  exact W.aret hx hb hr (Or.inl ⟨_, rfl⟩) (Or.inr ⟨_, rfl⟩) (fun t ht hW => ⟨⟨_, _, rfl, ⟨rfl, q2, m2, a2, rfl, hv⟩, by rw [ht]; exact hP, hD⟩, hS.F ht⟩) hS.2.2 (show decode cJ4_append_bf812 7 = .ok (.areturn, 1) from by decide +kernel) hlocks
set_option maxRecDepth 4096 in
theorem jc_appI2 {G : fG} {l : Launch} {b q mm k n : Nat} {ml : Int32} {a : Nat → Int32} {wr : va_W} (hm : mm ≤ 200) (hn : n ≤ mm) (hn1 : n < 92) (hfa : sb_Fit a) (h : 10 ≤ k) (hk : k < 100) (hf : l.stackTraces = false) (hGf : fWf G) : jCX G jT1 l yJ5_append_c97b9 (fw0 yJ5_append_c97b9 cJ5_append_c97b9 4 (some (.object "java/lang/AbstractStringBuilder"))) { frames := 4, cells := 1, slots := 200, locals := 180 } [.ref b, .int (nI k)] (jSb b q ml (nI n) :: jAr G q mm a :: wr) (fun o ws => o = some (.ref b) ∧ ∃ (q' m' : Nat) (a' : Nat → Int32), ws = jSb b q' ml (nI (n + 2)) :: jAr G q' m' a' :: wr ∧ n + 2 ≤ m' ∧ m' ≤ 200 ∧ sb_Fit a' ∧ a' n = nI (48 + k / 10) ∧ a' (n + 1) = nI (48 + k % 10) ∧ ∀ j, j < n → a' j = a j) := by
  refine jof (own := RJ5) hf hGf (by decide) rfl (Nat.le_of_ble_eq_true rfl) ?_
  intro p e s m args below meth c ls C hr hl hP hD hS hXs
  have C' := C
  obtain ⟨hx, hb, hml, hown, hts, hlocks, hst, hG, hPr⟩ := C'
  have hK := hPr.1
  refine lv_aload_n hx hb (show decode cJ5_append_c97b9 0 = .ok (.aload_n 0, 1) from by decide +kernel) rfl (lv_at hl 0 rfl) ?_
  refine va_get (D := G.2.1) (ci := 9) (C := RJ4) (T := TJ4) (N := 4) hx hb hts j_uw hown hK hP 0 rfl rfl 3 (by decide) (hts _ (jw_at 30 rfl)) (fun _ h9 => h9) rfl (show decode cJ5_append_c97b9 1 = .ok (.getfield 79, 3) from by decide +kernel) ?_
  refine lv_istore_n hx hb (show decode cJ5_append_c97b9 4 = .ok (.istore_n 2, 1) from by decide +kernel) rfl hl (by decide) rfl (fun ls hl => ?_)
  refine lv_iload_n hx hb (show decode cJ5_append_c97b9 5 = .ok (.iload_n 2, 1) from by decide +kernel) rfl (lv_at hl 0 rfl) ?_
  refine lv_iload_n hx hb (show decode cJ5_append_c97b9 6 = .ok (.iload_n 1, 1) from by decide +kernel) rfl (lv_at hl 2 rfl) ?_
  refine j_callS (n := 1) C (jc_ss2 h hk hf hGf) ⟨fun _ _ _ _ h => h, fun _ _ _ => trivial⟩ ⟨(jw_at 74 rfl), (jw_at 75 rfl), (jw_at 76 rfl), (jw_at 77 rfl)⟩ ⟨by decide, by decide, by decide +kernel⟩ ⟨by decide, by decide⟩ hl.1 hP hD hS rfl (Nat.le_of_ble_eq_true rfl) (show decode cJ5_append_c97b9 7 = .ok (.invokestatic 245, 3) from by decide +kernel) ⟨Nat.le_of_ble_eq_true rfl, Nat.le_of_ble_eq_true rfl⟩ (fun v ws' H locs hv hP hD hS => ?_)
  obtain ⟨rfl, rfl⟩ := hv
  refine lv_iadd hx hb (show decode cJ5_append_c97b9 10 = .ok (.iadd, 1) from by decide +kernel) ?_
  refine j_top (x' := nI (n + 2)) (nI_add n 2) ?_
  refine lv_istore_n hx hb (show decode cJ5_append_c97b9 11 = .ok (.istore_n 3, 1) from by decide +kernel) rfl hl (by decide) rfl (fun ls hl => ?_)
  refine lv_aload_n hx hb (show decode cJ5_append_c97b9 12 = .ok (.aload_n 0, 1) from by decide +kernel) rfl (lv_at hl 2 rfl) ?_
  refine lv_iload_n hx hb (show decode cJ5_append_c97b9 13 = .ok (.iload_n 3, 1) from by decide +kernel) rfl (lv_at hl 0 rfl) ?_
  refine j_callU (n := 1) C (jc_eci (k := n + 2) hm (by omega) hfa hf hGf) ⟨(jw_at 31 rfl), (jw_at 22 rfl), (jw_at 32 rfl), (jw_at 33 rfl), (jw_at 34 rfl)⟩ ((jX_of hPr).2.1 _ List.mem_cons_self) ⟨by decide, by decide, by decide +kernel⟩ ⟨by decide, by decide⟩ hl.1 hP hD hS 0 rfl rfl (Nat.le_of_ble_eq_true rfl) (show decode cJ5_append_c97b9 14 = .ok (.invokevirtual 100, 3) from by decide +kernel) ⟨Nat.le_of_ble_eq_true rfl, Nat.le_of_ble_eq_true rfl⟩ (fun v ws' H locs hv hP hD hS => ?_)
  obtain ⟨rfl, q2, m2, a2, rfl, h1, h2, h3, h4, h5⟩ := hv
  refine lv_aload_n hx hb (show decode cJ5_append_c97b9 17 = .ok (.aload_n 0, 1) from by decide +kernel) rfl (lv_at hl 2 rfl) ?_
  refine j_callU (n := 0) C (jc_isLatin1 hf hGf) ⟨(jw_at 36 rfl), (jw_at 22 rfl), (jw_at 37 rfl), (jw_at 38 rfl), (jw_at 39 rfl)⟩ (hts _ (jw_at 35 rfl)) ⟨by decide, by decide, by decide +kernel⟩ ⟨by decide, by decide⟩ hl.1 hP hD hS 0 rfl rfl (Nat.le_of_ble_eq_true rfl) (show decode cJ5_append_c97b9 18 = .ok (.invokevirtual 83, 3) from by decide +kernel) ⟨Nat.le_of_ble_eq_true rfl, Nat.le_of_ble_eq_true rfl⟩ (fun v ws' H locs hv hP hD hS => ?_)
  obtain ⟨rfl, rfl⟩ := hv
  refine lv_if_eq (tgt := 37) hx hb (show decode cJ5_append_c97b9 21 = .ok (.ifCond .eq 16, 3) from by decide +kernel) (by decide) (fun h9 => absurd h9 (by decide)) (fun _ => ?_)
  refine lv_iload_n hx hb (show decode cJ5_append_c97b9 24 = .ok (.iload_n 1, 1) from by decide +kernel) rfl (lv_at hl 3 rfl) ?_
  refine lv_iload_n hx hb (show decode cJ5_append_c97b9 25 = .ok (.iload_n 3, 1) from by decide +kernel) rfl (lv_at hl 0 rfl) ?_
  refine lv_aload_n hx hb (show decode cJ5_append_c97b9 26 = .ok (.aload_n 0, 1) from by decide +kernel) rfl (lv_at hl 2 rfl) ?_
  refine va_get (D := G.2.1) (ci := 9) (C := RJ4) (T := TJ4) (N := 4) hx hb hts j_uw hown hK hP 0 rfl rfl 0 (by decide) (hts _ (jw_at 7 rfl)) (fun _ h9 => h9) rfl (show decode cJ5_append_c97b9 27 = .ok (.getfield 15, 3) from by decide +kernel) ?_
  have hP := j_P2 hP
  have hD := j_D2 hD
  refine j_callS (n := 3) C (jc_gc2 h2 h1 h hk hf hGf) ⟨fun _ _ _ _ h => h, fun _ _ _ => trivial⟩ ⟨(jw_at 78 rfl), (jw_at 75 rfl), (jw_at 79 rfl), (jw_at 80 rfl)⟩ ⟨by decide, by decide, by decide +kernel⟩ ⟨by decide, by decide⟩ hl.1 hP hD hS rfl (Nat.le_of_ble_eq_true rfl) (show decode cJ5_append_c97b9 30 = .ok (.invokestatic 248, 3) from by decide +kernel) ⟨Nat.le_of_ble_eq_true rfl, Nat.le_of_ble_eq_true rfl⟩ (fun v ws' H locs hv hP hD hS => ?_)
  obtain ⟨z, rfl, rfl⟩ := hv
  have hP := j_P2 hP
  have hD := j_D2 hD
  refine lv_pop hx hb (show decode cJ5_append_c97b9 33 = .ok (.pop, 1) from by decide +kernel) rfl ?_
  refine lv_goto (tgt := 48) hx hb (show decode cJ5_append_c97b9 34 = .ok (.goto 14, 3) from by decide +kernel) (by decide) ?_
  refine lv_aload_n hx hb (show decode cJ5_append_c97b9 48 = .ok (.aload_n 0, 1) from by decide +kernel) rfl (lv_at hl 2 rfl) ?_
  refine lv_iload_n hx hb (show decode cJ5_append_c97b9 49 = .ok (.iload_n 3, 1) from by decide +kernel) rfl (lv_at hl 0 rfl) ?_
  refine va_put (D := G.2.1) (ci := 9) (C := RJ4) (T := TJ4) (N := 4) (ty := tyJ4 3) hx hb hts j_uw tyJ4 tyJ4_ok nmJ4 hown hK hP hD hS 0 rfl rfl 3 (by decide) (hts _ (jw_at 30 rfl)) (fun _ h9 => h9) rfl (by decide +kernel) rfl rfl (Nat.le_of_ble_eq_true rfl) (show decode cJ5_append_c97b9 50 = .ok (.putfield 79, 3) from by decide +kernel) (fun H locs hP hD hS => ?_)
  have hP : va_P G.2.1 fcl (jSb b q2 ml (nI (n + 2)) :: jAr G q2 m2 (upd (upd a2 (n + 1) (nI (48 + k % 10))) n (nI (48 + k / 10))) :: wr) H := hP
  have hD : va_D (fA G) (jSb b q2 ml (nI (n + 2)) :: jAr G q2 m2 (upd (upd a2 (n + 1) (nI (48 + k % 10))) n (nI (48 + k / 10))) :: wr) := hD
  refine lv_aload_n hx hb (show decode cJ5_append_c97b9 53 = .ok (.aload_n 0, 1) from by decide +kernel) rfl (lv_at hl 2 rfl) ?_
  refine W.widen (k := 1) (n := 200) (Nat.le_of_ble_eq_true rfl) (Nat.le_of_ble_eq_true rfl) ?_
  exact W.aret hx hb hr (Or.inl ⟨_, rfl⟩) (Or.inr ⟨_, rfl⟩) (fun t ht hW => ⟨⟨_, _, rfl, ⟨rfl, q2, m2, _, rfl, h1, h2, sb_fitU (sb_fitU h4 (j_by _ (by omega)).2.2.2.1) (j_by _ (by omega)).2.2.2.1, pk_us, (pk_un (by omega)).trans pk_us, fun j hj => (pk_un (by omega)).trans ((pk_un (by omega)).trans (h5 j (by omega)))⟩, by rw [ht]; exact hP, hD⟩, hS.F ht⟩) hS.2.2 (show decode cJ5_append_c97b9 54 = .ok (.areturn, 1) from by decide +kernel) hlocks
set_option maxRecDepth 4096 in
theorem jc_sbI2 {G : fG} {l : Launch} {b q mm k n : Nat} {ml : Int32} {a : Nat → Int32} {wr : va_W} (hm : mm ≤ 200) (hn : n ≤ mm) (hn1 : n < 92) (hfa : sb_Fit a) (h : 10 ≤ k) (hk : k < 100) (hf : l.stackTraces = false) (hGf : fWf G) : jCX G jT1 l yJ4_append_bf812 (fw0 yJ4_append_bf812 cJ4_append_bf812 2 (some (.object "java/lang/StringBuilder"))) { frames := 5, cells := 1, slots := 200, locals := 220 } [.ref b, .int (nI k)] (jSb b q ml (nI n) :: jAr G q mm a :: wr) (fun o ws => o = some (.ref b) ∧ ∃ (q' m' : Nat) (a' : Nat → Int32), ws = jSb b q' ml (nI (n + 2)) :: jAr G q' m' a' :: wr ∧ n + 2 ≤ m' ∧ m' ≤ 200 ∧ sb_Fit a' ∧ a' n = nI (48 + k / 10) ∧ a' (n + 1) = nI (48 + k % 10) ∧ ∀ j, j < n → a' j = a j) := by
  refine jof (own := RJ4) hf hGf (by decide) rfl (Nat.le_of_ble_eq_true rfl) ?_
  intro p e s m args below meth c ls C hr hl hP hD hS hXs
  have C' := C
  obtain ⟨hx, hb, hml, hown, hts, hlocks, hst, hG, hPr⟩ := C'
  have hK := hPr.1
  refine lv_aload_n hx hb (show decode cJ4_append_bf812 0 = .ok (.aload_n 0, 1) from by decide +kernel) rfl (lv_at hl 0 rfl) ?_
  refine lv_iload_n hx hb (show decode cJ4_append_bf812 1 = .ok (.iload_n 1, 1) from by decide +kernel) rfl (lv_at hl 1 rfl) ?_
  refine j_callSU (n := 1) C (jc_appI2 hm hn hn1 hfa h hk hf hGf) ⟨(jw_at 81 rfl), (jw_at 22 rfl), (jw_at 82 rfl), (jw_at 83 rfl), (jw_at 47 rfl), (jw_at 84 rfl)⟩ (by decide) ⟨by decide, by decide, by decide +kernel⟩ ⟨by decide, by decide⟩ hl.1 hP hD hS 0 rfl rfl (Nat.le_of_ble_eq_true rfl) (show decode cJ4_append_bf812 2 = .ok (.invokespecial 53, 3) from by decide +kernel) ⟨Nat.le_of_ble_eq_true rfl, Nat.le_of_ble_eq_true rfl⟩ (fun v ws' H locs hv hP hD hS => ?_)
  obtain ⟨rfl, q2, m2, a2, rfl, hv⟩ := hv
  refine lv_pop hx hb (show decode cJ4_append_bf812 5 = .ok (.pop, 1) from by decide +kernel) rfl ?_
  refine lv_aload_n hx hb (show decode cJ4_append_bf812 6 = .ok (.aload_n 0, 1) from by decide +kernel) rfl (lv_at hl 0 rfl) ?_
  refine W.widen (k := 1) (n := 200) (Nat.le_of_ble_eq_true rfl) (Nat.le_of_ble_eq_true rfl) ?_
  exact W.aret hx hb hr (Or.inl ⟨_, rfl⟩) (Or.inr ⟨_, rfl⟩) (fun t ht hW => ⟨⟨_, _, rfl, ⟨rfl, q2, m2, a2, rfl, hv⟩, by rw [ht]; exact hP, hD⟩, hS.F ht⟩) hS.2.2 (show decode cJ4_append_bf812 7 = .ok (.areturn, 1) from by decide +kernel) hlocks
set_option maxRecDepth 4096 in
theorem jc_coder {G : fG} {l : Launch} {i : Nat} {w : va_W} (hi : i < 11) (hf : l.stackTraces = false) (hGf : fWf G) : jCX G jT1 l yJ0_coder_7d493 (fw0 yJ0_coder_7d493 cJ0_coder_7d493 1 (some .byte)) { frames := 0, cells := 0, slots := 0, locals := 0 } [.ref (G.1 (52, i, 0))] w (fun o ws => o = some (.int 0) ∧ ws = w) := by
  refine jof (own := RJ0) hf hGf (by decide) rfl (Nat.le_of_ble_eq_true rfl) ?_
  intro p e s m args below meth c ls C hr hl hP hD hS hXs
  have C' := C
  obtain ⟨hx, hb, hml, hown, hts, hlocks, hst, hG, hPr⟩ := C'
  have hK := hPr.1
  obtain ⟨adV, hZS⟩ := hPr.2.2.2.2.2.2.1
  refine va_gets hx hb hPr.2.2.2.2.2.2.2.2.1 hS hown (hts _ (jw_at 85 rfl)) (fun _ h9 => h9) (show decode cJ0_coder_7d493 0 = .ok (.getstatic 38, 3) from by decide +kernel) ?_
  refine lv_if_eq (tgt := 13) hx hb (show decode cJ0_coder_7d493 3 = .ok (.ifCond .eq 10, 3) from by decide +kernel) (by decide) (fun h9 => absurd h9 (by decide)) (fun _ => ?_)
  refine lv_aload_n hx hb (show decode cJ0_coder_7d493 6 = .ok (.aload_n 0, 1) from by decide +kernel) rfl (lv_at hl 0 rfl) ?_
  refine vk_getf hx hb (hZS.1 i hi).2.1 hS hown (hts _ (jw_at 86 rfl)) (fun _ h9 => h9) (show decode cJ0_coder_7d493 7 = .ok (.getfield 15, 3) from by decide +kernel) ?_
  refine lv_goto (tgt := 14) hx hb (show decode cJ0_coder_7d493 10 = .ok (.goto 4, 3) from by decide +kernel) (by decide) ?_
  refine W.widen (k := 0) (n := 0) (Nat.le_of_ble_eq_true rfl) (Nat.le_of_ble_eq_true rfl) ?_
  exact fW_zret (v := 0) (w := 0) hx hb hr (rfl) (fun t ht hW => ⟨⟨_, _, rfl, ⟨rfl, rfl⟩, by rw [ht]; exact hP, hD⟩, hS.F ht⟩) hS.2.2 (show decode cJ0_coder_7d493 14 = .ok (.ireturn, 1) from by decide +kernel) hlocks
set_option maxRecDepth 4096 in
theorem jc_strLat {G : fG} {l : Launch} {i : Nat} {w : va_W} (hi : i < 11) (hf : l.stackTraces = false) (hGf : fWf G) : jCX G jT1 l yJ0_isLatin1_aae02 (fw0 yJ0_isLatin1_aae02 cJ0_isLatin1_aae02 1 (some .boolean)) { frames := 0, cells := 0, slots := 0, locals := 0 } [.ref (G.1 (52, i, 0))] w (fun o ws => o = some (.int 1) ∧ ws = w) := by
  refine jof (own := RJ0) hf hGf (by decide) rfl (Nat.le_of_ble_eq_true rfl) ?_
  intro p e s m args below meth c ls C hr hl hP hD hS hXs
  have C' := C
  obtain ⟨hx, hb, hml, hown, hts, hlocks, hst, hG, hPr⟩ := C'
  have hK := hPr.1
  obtain ⟨adV, hZS⟩ := hPr.2.2.2.2.2.2.1
  refine va_gets hx hb hPr.2.2.2.2.2.2.2.2.1 hS hown (hts _ (jw_at 85 rfl)) (fun _ h9 => h9) (show decode cJ0_isLatin1_aae02 0 = .ok (.getstatic 38, 3) from by decide +kernel) ?_
  refine lv_if_eq (tgt := 17) hx hb (show decode cJ0_isLatin1_aae02 3 = .ok (.ifCond .eq 14, 3) from by decide +kernel) (by decide) (fun h9 => absurd h9 (by decide)) (fun _ => ?_)
  refine lv_aload_n hx hb (show decode cJ0_isLatin1_aae02 6 = .ok (.aload_n 0, 1) from by decide +kernel) rfl (lv_at hl 0 rfl) ?_
  refine vk_getf hx hb (hZS.1 i hi).2.1 hS hown (hts _ (jw_at 86 rfl)) (fun _ h9 => h9) (show decode cJ0_isLatin1_aae02 7 = .ok (.getfield 15, 3) from by decide +kernel) ?_
  refine lv_if_ne (tgt := 17) hx hb (show decode cJ0_isLatin1_aae02 10 = .ok (.ifCond .ne 7, 3) from by decide +kernel) (by decide) (fun h9 => absurd (rfl) h9) (fun _ => ?_)
  refine lv_iconst (v := 1) hx hb (show decode cJ0_isLatin1_aae02 13 = .ok (.iconst 1, 1) from by decide +kernel) (by decide) ?_
  refine lv_goto (tgt := 18) hx hb (show decode cJ0_isLatin1_aae02 14 = .ok (.goto 4, 3) from by decide +kernel) (by decide) ?_
  refine W.widen (k := 0) (n := 0) (Nat.le_of_ble_eq_true rfl) (Nat.le_of_ble_eq_true rfl) ?_
  exact fW_zret (v := 1) (w := 1) hx hb hr (rfl) (fun t ht hW => ⟨⟨_, _, rfl, ⟨rfl, rfl⟩, by rw [ht]; exact hP, hD⟩, hS.F ht⟩) hS.2.2 (show decode cJ0_isLatin1_aae02 18 = .ok (.ireturn, 1) from by decide +kernel) hlocks
set_option maxRecDepth 4096 in
theorem jc_strLen {G : fG} {l : Launch} {i : Nat} {w : va_W} (hi : i < 11) (hf : l.stackTraces = false) (hGf : fWf G) : jCX G jT1 l yJ0_length_8abf5 (fw0 yJ0_length_8abf5 cJ0_length_8abf5 1 (some .int)) { frames := 1, cells := 0, slots := 0, locals := 40 } [.ref (G.1 (52, i, 0))] w (fun o ws => o = some (.int (nI (fLen.getD i 0))) ∧ ws = w) := by
  refine jof (own := RJ0) hf hGf (by decide) rfl (Nat.le_of_ble_eq_true rfl) ?_
  intro p e s m args below meth c ls C hr hl hP hD hS hXs
  have C' := C
  obtain ⟨hx, hb, hml, hown, hts, hlocks, hst, hG, hPr⟩ := C'
  have hK := hPr.1
  obtain ⟨adV, hZS⟩ := hPr.2.2.2.2.2.2.1
  refine lv_aload_n hx hb (show decode cJ0_length_8abf5 0 = .ok (.aload_n 0, 1) from by decide +kernel) rfl (lv_at hl 0 rfl) ?_
  refine vk_getf hx hb (hZS.1 i hi).2.2.1 hS hown (hts _ (jw_at 87 rfl)) (fun _ h9 => h9) (show decode cJ0_length_8abf5 1 = .ok (.getfield 9, 3) from by decide +kernel) ?_
  refine va_tlen hx hb (hZS.1 i hi).2.2.2 hS rfl (show decode cJ0_length_8abf5 4 = .ok (.arraylength, 1) from by decide +kernel) ?_
  refine lv_aload_n hx hb (show decode cJ0_length_8abf5 5 = .ok (.aload_n 0, 1) from by decide +kernel) rfl (lv_at hl 0 rfl) ?_
  refine j_callT (C0 := "java/lang/String") (n := 0) C (jc_coder (w := w) hi hf hGf) ⟨(jw_at 88 rfl), (jw_at 65 rfl), (jw_at 89 rfl), (jw_at 90 rfl), (jw_at 91 rfl)⟩ ⟨by decide, by decide, by decide +kernel⟩ ⟨by decide, by decide⟩ hl.1 hP hD hS (vk_recv hZS hi hS) rfl (Nat.le_of_ble_eq_true rfl) (show decode cJ0_length_8abf5 6 = .ok (.invokevirtual 335, 3) from by decide +kernel) ⟨Nat.le_of_ble_eq_true rfl, Nat.le_of_ble_eq_true rfl⟩ (fun v ws' H locs hv hP hD hS => ?_)
  obtain ⟨rfl, ew⟩ := hv
  rw [ew] at hP hD
  refine lv_ishr hx hb (show decode cJ0_length_8abf5 9 = .ok (.ishr, 1) from by decide +kernel) ?_
  refine j_top (x' := nI (fLen.getD i 0)) (sb_shr0 _) ?_
  refine W.widen (k := 0) (n := 0) (Nat.le_of_ble_eq_true rfl) (Nat.le_of_ble_eq_true rfl) ?_
  exact W.iret hx hb hr (fun t ht hW => ⟨⟨_, _, rfl, ⟨rfl, rfl⟩, by rw [ht]; exact hP, hD⟩, hS.F ht⟩) hS.2.2 (show decode cJ0_length_8abf5 10 = .ok (.ireturn, 1) from by decide +kernel) hlocks
set_option maxRecDepth 4096 in
theorem jc_l1c {G : fG} {l : Launch} {t N j k : Nat} {f : Nat → Int32} {w : va_W} (hN : N < 2 ^ 31) (hj : j < N) (hk : k < 128) (hk2 : f j = nI k) (hf : l.stackTraces = false) (hGf : fWf G) : jCX G (fun U => va_T .byte t N (fun j => .int (f j)) (fA G) U U.heap) l yJ1_charAt_3b067 (fw0 yJ1_charAt_3b067 cJ1_charAt_3b067 2 (some .char)) { frames := 2, cells := 0, slots := 0, locals := 80 } [.ref t, .int (nI j)] w (fun o ws => o = some (.int (nI k)) ∧ ws = w) := by
  refine jof (own := RJ1) hf hGf (by decide) rfl (Nat.le_of_ble_eq_true rfl) ?_
  intro p e s m args below meth c ls C hr hl hP hD hS hXs
  have C' := C
  obtain ⟨hx, hb, hml, hown, hts, hlocks, hst, hG, hPr⟩ := C'
  have hK := hPr.1
  refine lv_iload_n hx hb (show decode cJ1_charAt_3b067 0 = .ok (.iload_n 1, 1) from by decide +kernel) rfl (lv_at hl 1 rfl) ?_
  refine lv_aload_n hx hb (show decode cJ1_charAt_3b067 1 = .ok (.aload_n 0, 1) from by decide +kernel) rfl (lv_at hl 0 rfl) ?_
  refine va_tlen hx hb hXs hS rfl (show decode cJ1_charAt_3b067 2 = .ok (.arraylength, 1) from by decide +kernel) ?_
  refine j_callS (n := 2) C (jc_check (w := w) hj hN hf hGf) ⟨fun _ _ _ _ h => h, fun _ _ _ => trivial⟩ ⟨(jw_at 64 rfl), (jw_at 65 rfl), (jw_at 92 rfl), (jw_at 67 rfl)⟩ ⟨by decide, by decide, by decide +kernel⟩ ⟨by decide, by decide⟩ hl.1 hP hD hS rfl (Nat.le_of_ble_eq_true rfl) (show decode cJ1_charAt_3b067 3 = .ok (.invokestatic 9, 3) from by decide +kernel) ⟨Nat.le_of_ble_eq_true rfl, Nat.le_of_ble_eq_true rfl⟩ (fun v ws' H locs hv hP hD hS => ?_)
  obtain ⟨rfl, ew⟩ := hv
  rw [ew] at hP hD
  refine lv_aload_n hx hb (show decode cJ1_charAt_3b067 6 = .ok (.aload_n 0, 1) from by decide +kernel) rfl (lv_at hl 0 rfl) ?_
  refine lv_iload_n hx hb (show decode cJ1_charAt_3b067 7 = .ok (.iload_n 1, 1) from by decide +kernel) rfl (lv_at hl 1 rfl) ?_
  refine va_tb hx hb hXs hS (vp_in_nI hj hN) (v := .int (nI k)) (by rw [nI_clamp (by omega)]; exact congrArg Value.int hk2) (show decode cJ1_charAt_3b067 8 = .ok (.baload, 1) from by decide +kernel) ?_
  refine lv_sipush (v := 255) hx hb (show decode cJ1_charAt_3b067 9 = .ok (.sipush 255, 3) from by decide +kernel) (by decide) ?_
  refine lv_iand hx hb (show decode cJ1_charAt_3b067 12 = .ok (.iand, 1) from by decide +kernel) ?_
  refine lv_i2c hx hb (show decode cJ1_charAt_3b067 13 = .ok (.i2c, 1) from by decide +kernel) rfl ?_
  refine j_top (x' := nI k) ((j_by k hk).2.2.1) ?_
  refine W.widen (k := 0) (n := 0) (Nat.le_of_ble_eq_true rfl) (Nat.le_of_ble_eq_true rfl) ?_
  exact fW_zret (v := nI k) (w := nI k) hx hb hr (congrArg Value.int (j_by k hk).2.2.2.2) (fun t ht hW => ⟨⟨_, _, rfl, ⟨rfl, rfl⟩, by rw [ht]; exact hP, hD⟩, hS.F ht⟩) hS.2.2 (show decode cJ1_charAt_3b067 14 = .ok (.ireturn, 1) from by decide +kernel) hlocks
set_option maxRecDepth 4096 in
theorem jc_strAt {G : fG} {l : Launch} {i j k : Nat} {w : va_W} (hi : i < 11) (hN : fLen.getD i 0 < 2 ^ 31) (hj : j < fLen.getD i 0) (hk : k < 128) (hk2 : (fByt.getD i []).getD j 0 = nI k) (hf : l.stackTraces = false) (hGf : fWf G) : jCX G jT1 l yJ0_charAt_5068e (fw0 yJ0_charAt_5068e cJ0_charAt_5068e 2 (some .char)) { frames := 3, cells := 0, slots := 0, locals := 120 } [.ref (G.1 (52, i, 0)), .int (nI j)] w (fun o ws => o = some (.int (nI k)) ∧ ws = w) := by
  refine jof (own := RJ0) hf hGf (by decide) rfl (Nat.le_of_ble_eq_true rfl) ?_
  intro p e s m args below meth c ls C hr hl hP hD hS hXs
  have C' := C
  obtain ⟨hx, hb, hml, hown, hts, hlocks, hst, hG, hPr⟩ := C'
  have hK := hPr.1
  obtain ⟨adV, hZS⟩ := hPr.2.2.2.2.2.2.1
  refine lv_aload_n hx hb (show decode cJ0_charAt_5068e 0 = .ok (.aload_n 0, 1) from by decide +kernel) rfl (lv_at hl 0 rfl) ?_
  refine j_callT (C0 := "java/lang/String") (n := 0) C (jc_strLat (w := w) hi hf hGf) ⟨(jw_at 93 rfl), (jw_at 65 rfl), (jw_at 94 rfl), (jw_at 95 rfl), (jw_at 96 rfl)⟩ ⟨by decide, by decide, by decide +kernel⟩ ⟨by decide, by decide⟩ hl.1 hP hD hS (vk_recv hZS hi hS) rfl (Nat.le_of_ble_eq_true rfl) (show decode cJ0_charAt_5068e 1 = .ok (.invokevirtual 492, 3) from by decide +kernel) ⟨Nat.le_of_ble_eq_true rfl, Nat.le_of_ble_eq_true rfl⟩ (fun v ws' H locs hv hP hD hS => ?_)
  obtain ⟨rfl, ew⟩ := hv
  rw [ew] at hP hD
  refine lv_if_eq (tgt := 16) hx hb (show decode cJ0_charAt_5068e 4 = .ok (.ifCond .eq 12, 3) from by decide +kernel) (by decide) (fun h9 => absurd h9 (by decide)) (fun _ => ?_)
  refine lv_aload_n hx hb (show decode cJ0_charAt_5068e 7 = .ok (.aload_n 0, 1) from by decide +kernel) rfl (lv_at hl 0 rfl) ?_
  refine vk_getf hx hb (hZS.1 i hi).2.2.1 hS hown (hts _ (jw_at 87 rfl)) (fun _ h9 => h9) (show decode cJ0_charAt_5068e 8 = .ok (.getfield 9, 3) from by decide +kernel) ?_
  refine lv_iload_n hx hb (show decode cJ0_charAt_5068e 11 = .ok (.iload_n 1, 1) from by decide +kernel) rfl (lv_at hl 1 rfl) ?_
  refine j_callS (n := 2) C (jc_l1c (t := adV i) (N := fLen.getD i 0) (f := fun j => (fByt.getD i []).getD j 0) (w := w) hN hj hk hk2 hf hGf) ⟨fun _ _ _ _ h => h, fun U hU hW => by rw [hU]; exact ((hZS.1 i hi).2.2.2.moved hW.alike).kept hS.2.1⟩ ⟨(jw_at 97 rfl), (jw_at 41 rfl), (jw_at 98 rfl), (jw_at 99 rfl)⟩ ⟨by decide, by decide, by decide +kernel⟩ ⟨by decide, by decide⟩ hl.1 hP hD hS rfl (Nat.le_of_ble_eq_true rfl) (show decode cJ0_charAt_5068e 12 = .ok (.invokestatic 495, 3) from by decide +kernel) ⟨Nat.le_of_ble_eq_true rfl, Nat.le_of_ble_eq_true rfl⟩ (fun v ws' H locs hv hP hD hS => ?_)
  obtain ⟨rfl, ew⟩ := hv
  rw [ew] at hP hD
  refine W.widen (k := 0) (n := 0) (Nat.le_of_ble_eq_true rfl) (Nat.le_of_ble_eq_true rfl) ?_
  exact fW_zret (v := nI k) (w := nI k) hx hb hr (congrArg Value.int (j_by k hk).2.2.2.2) (fun t ht hW => ⟨⟨_, _, rfl, ⟨rfl, rfl⟩, by rw [ht]; exact hP, hD⟩, hS.F ht⟩) hS.2.2 (show decode cJ0_charAt_5068e 15 = .ok (.ireturn, 1) from by decide +kernel) hlocks
theorem jw_sbC {own : String} {idx : Nat} (hl : Jvm.Cond.methodLink own idx yJ4_append_cf468 ∈ fT) : Jvm.Cond.code yJ4_append_cf468 cJ4_append_cf468 2 (some (.object "java/lang/StringBuilder")) ∈ fT ∧ Jvm.Cond.initialized yJ4_append_cf468.cls ∈ fT ∧ Jvm.Cond.methodLink own idx yJ4_append_cf468 ∈ fT ∧ Jvm.Cond.instanceMethod yJ4_append_cf468 ∈ fT ∧ Jvm.Cond.selects "java/lang/StringBuilder" yJ4_append_cf468 yJ4_append_cf468 ∈ fT := ⟨(jw_at 100 rfl), (jw_at 101 rfl), hl, (jw_at 102 rfl), (jw_at 103 rfl)⟩
theorem jw_sbI {own : String} {idx : Nat} (hl : Jvm.Cond.methodLink own idx yJ4_append_bf812 ∈ fT) : Jvm.Cond.code yJ4_append_bf812 cJ4_append_bf812 2 (some (.object "java/lang/StringBuilder")) ∈ fT ∧ Jvm.Cond.initialized yJ4_append_bf812.cls ∈ fT ∧ Jvm.Cond.methodLink own idx yJ4_append_bf812 ∈ fT ∧ Jvm.Cond.instanceMethod yJ4_append_bf812 ∈ fT ∧ Jvm.Cond.selects "java/lang/StringBuilder" yJ4_append_bf812 yJ4_append_bf812 ∈ fT := ⟨(jw_at 104 rfl), (jw_at 101 rfl), hl, (jw_at 105 rfl), (jw_at 106 rfl)⟩
theorem jw_sbLen {own : String} {idx : Nat} (hl : Jvm.Cond.methodLink own idx yJ4_length_8abf5 ∈ fT) : Jvm.Cond.code yJ4_length_8abf5 cJ4_length_8abf5 1 (some .int) ∈ fT ∧ Jvm.Cond.initialized yJ4_length_8abf5.cls ∈ fT ∧ Jvm.Cond.methodLink own idx yJ4_length_8abf5 ∈ fT ∧ Jvm.Cond.instanceMethod yJ4_length_8abf5 ∈ fT ∧ Jvm.Cond.selects "java/lang/StringBuilder" yJ4_length_8abf5 yJ4_length_8abf5 ∈ fT := ⟨(jw_at 107 rfl), (jw_at 101 rfl), hl, (jw_at 108 rfl), (jw_at 109 rfl)⟩
theorem jw_sbAt {own : String} {idx : Nat} (hl : Jvm.Cond.methodLink own idx yJ4_charAt_5068e ∈ fT) : Jvm.Cond.code yJ4_charAt_5068e cJ4_charAt_5068e 2 (some .char) ∈ fT ∧ Jvm.Cond.initialized yJ4_charAt_5068e.cls ∈ fT ∧ Jvm.Cond.methodLink own idx yJ4_charAt_5068e ∈ fT ∧ Jvm.Cond.instanceMethod yJ4_charAt_5068e ∈ fT ∧ Jvm.Cond.selects "java/lang/StringBuilder" yJ4_charAt_5068e yJ4_charAt_5068e ∈ fT := ⟨(jw_at 110 rfl), (jw_at 101 rfl), hl, (jw_at 111 rfl), (jw_at 112 rfl)⟩
theorem jw_sbSet {own : String} {idx : Nat} (hl : Jvm.Cond.methodLink own idx yJ4_setLength_d00df ∈ fT) : Jvm.Cond.code yJ4_setLength_d00df cJ4_setLength_d00df 2 none ∈ fT ∧ Jvm.Cond.initialized yJ4_setLength_d00df.cls ∈ fT ∧ Jvm.Cond.methodLink own idx yJ4_setLength_d00df ∈ fT ∧ Jvm.Cond.instanceMethod yJ4_setLength_d00df ∈ fT ∧ Jvm.Cond.selects "java/lang/StringBuilder" yJ4_setLength_d00df yJ4_setLength_d00df ∈ fT := ⟨(jw_at 113 rfl), (jw_at 101 rfl), hl, (jw_at 114 rfl), (jw_at 115 rfl)⟩
theorem jw_strLen {own : String} {idx : Nat} (hl : Jvm.Cond.methodLink own idx yJ0_length_8abf5 ∈ fT) : Jvm.Cond.code yJ0_length_8abf5 cJ0_length_8abf5 1 (some .int) ∈ fT ∧ Jvm.Cond.initialized yJ0_length_8abf5.cls ∈ fT ∧ Jvm.Cond.methodLink own idx yJ0_length_8abf5 ∈ fT ∧ Jvm.Cond.instanceMethod yJ0_length_8abf5 ∈ fT ∧ Jvm.Cond.selects "java/lang/String" yJ0_length_8abf5 yJ0_length_8abf5 ∈ fT := ⟨(jw_at 116 rfl), (jw_at 65 rfl), hl, (jw_at 117 rfl), (jw_at 118 rfl)⟩
theorem jw_strAt {own : String} {idx : Nat} (hl : Jvm.Cond.methodLink own idx yJ0_charAt_5068e ∈ fT) : Jvm.Cond.code yJ0_charAt_5068e cJ0_charAt_5068e 2 (some .char) ∈ fT ∧ Jvm.Cond.initialized yJ0_charAt_5068e.cls ∈ fT ∧ Jvm.Cond.methodLink own idx yJ0_charAt_5068e ∈ fT ∧ Jvm.Cond.instanceMethod yJ0_charAt_5068e ∈ fT ∧ Jvm.Cond.selects "java/lang/String" yJ0_charAt_5068e yJ0_charAt_5068e ∈ fT := ⟨(jw_at 119 rfl), (jw_at 65 rfl), hl, (jw_at 120 rfl), (jw_at 121 rfl)⟩
