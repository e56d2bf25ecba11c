/-! ===== BEGIN a private method of a nest mate that may throw (follows va_callVN, va_callSN, va_runVN, va_runSN) ===== -/
section
variable {p : Program} {l : Launch} {e : Env} {R : Room} {s : State} {m : MethodId} {args : Array Value} {below : List Frame} {meth : Method} {c : Code} {H : Heap} {locs : List Loc} {cells slots : Nat}
variable {T : State}
theorem vx_callVN (X : Stand p l e R s m args below meth c T locs cells slots) (hexec : p.tables.exec = Jvm.exec) {own C : String} {index : Nat} {host : String} {y : MethodName} {bytes : ByteArray} {maxL : Nat} {ret : Option FieldType}
    (hown : s.vm.findClass own = some m.cls) (hlink : (Cond.methodLinkNest own index y host).before args s = true) (hinst : (Cond.instanceMethod y).before args s = true) (hsel : (Cond.selects C y y).before args s = true)
    (hcode : (Cond.code y bytes maxL ret).before args s = true) (hy : y.cls ≠ "java/lang/invoke/MethodHandle" ∧ y.cls ≠ "java/lang/invoke/VarHandle")
    {W : Nat} {Pre : Pt → Array Value → Prop} {Post : Pt → Array Value → Option Value → Pt → Prop} {PostX : Pt → Array Value → Addr → Pt → Prop} (hK : vx_Back l R p e below s args y 3 W Pre Post PostX)
    {b : Addr} {cellB : Cell} (hcell : T.heap[b]? = some cellB) (hobj : cellB.vm.isStatics = false) (hcls : s.vm.findClass C = some cellB.cls)
    {g : JFrame} (hg : g.method = m) (hsize : g.locals.size = c.maxLocals) {argsL rest : List Value} (hlen : ∀ sig, parseMethodDescriptor y.desc = some sig → argsL.length = sig.parameters.length)
    (hstack : g.stack = argsL.reverse ++ .ref b :: rest) (hW : 2 * g.monitorRoom + (rest.map fun v => v.category).sum ≤ W) (hdg : decode c.code g.pc = .ok (.invokevirtual index, 3))
    (hpre : ∀ vm₁, s.WarmedH vm₁ → Pre ⟨T.setVm vm₁, locs, cells, slots⟩ (Value.ref b :: argsL).toArray) :
    (∃ (v : Option Value) (vm₁ : Vm) (B : Pt), s.WarmedH vm₁ ∧ Stand p l e R s m args below meth c B.U B.locs B.cells B.slots ∧ Post ⟨T.setVm vm₁, locs, cells, slots⟩ (Value.ref b :: argsL).toArray v B ∧
      ∀ target, Steps p.tables e below (B.U.setTop { g with pc := g.pc + 3, stack := v.toList ++ rest }) target → Steps p.tables e below (T.setTop g) target) ∨
    (∃ (q : Addr) (vm₁ : Vm) (B : Pt), s.WarmedH vm₁ ∧ Stand p l e R s m args below meth c B.U B.locs B.cells B.slots ∧ PostX ⟨T.setVm vm₁, locs, cells, slots⟩ (Value.ref b :: argsL).toArray q B ∧
      Steps p.tables e below (T.setTop g) ((B.U.setTop { g with stack := rest }).pushFrame (.throwing q))) := by
  obtain ⟨mk, methM, hnamed, hmethM, hstM, habM⟩ := Cond.instanceMethod_spec hinst
  obtain ⟨methM', cM, hmethM', -, -, -, -, -, -, hsigM⟩ := Cond.code_spec hnamed hcode
  cases hmethM.symm.trans hmethM'
  obtain ⟨c2, r2, m2, q1, q2, q3, q4, kP, hkP, hkPi⟩ := Cond.selects_spec hsel
  cases hcls.symm.trans q1
  cases (State.methodFound?_of_named hnamed hy).symm.trans q2
  cases hnamed.symm.trans q3
  have hselP : selectMethod e.platform s.vm cellB.cls mk = .method mk := by rw [Launch.admits_selectMethod X.admits]; exact q4
  obtain ⟨vm₁, X₁, hstep₁⟩ := X.invokevirtualNest hexec hown hlink hnamed hmethM hstM hkP hkPi hy (a := b) (cell := cellB) hcell
    (fun z h => by rw [h] at hobj; cases hobj) hselP hmethM habM hkP hkPi (g := g) hg (argsL := argsL) (rest := rest) (hlen _ hsigM) hstack hdg
  rcases hK m meth c ⟨T.setVm vm₁, locs, cells, slots⟩ { g with stack := rest } (.invokevirtual index) mk (Value.ref b :: argsL).toArray X₁ hg hsize hdg hW (X₁.named hnamed) (hpre vm₁ X₁.warmed) with ⟨v, B, X', hpost, hsteps⟩ | ⟨q, B, X', hpost, hsteps⟩
  · exact Or.inl ⟨v, vm₁, B, X₁.warmed, X', hpost, fun target h => hstep₁ _ fun acts => by rw [doInvoke_state]; exact hsteps.trans h⟩
  · exact Or.inr ⟨q, vm₁, B, X₁.warmed, X', hpost, hstep₁ _ fun acts => by rw [doInvoke_state]; exact hsteps⟩
theorem vx_callSN (X : Stand p l e R s m args below meth c T locs cells slots) (hexec : p.tables.exec = Jvm.exec) {own : String} {index : Nat} {host : String} {y : MethodName} {bytes : ByteArray} {maxL : Nat} {ret : Option FieldType}
    (hown : s.vm.findClass own = some m.cls) (hlink : (Cond.methodLinkNest own index y host).before args s = true) (hstat : (Cond.static y).before args s = true) (hinit : (Cond.initialized y.cls).before args s = true)
    (hcode : (Cond.code y bytes maxL ret).before args s = true) (hy : y.cls ≠ "java/lang/invoke/MethodHandle" ∧ y.cls ≠ "java/lang/invoke/VarHandle")
    {W : Nat} {Pre : Pt → Array Value → Prop} {Post : Pt → Array Value → Option Value → Pt → Prop} {PostX : Pt → Array Value → Addr → Pt → Prop} (hK : vx_Back l R p e below s args y 3 W Pre Post PostX)
    {g : JFrame} (hg : g.method = m) (hsize : g.locals.size = c.maxLocals) {argsL rest : List Value} (hlen : ∀ sig, parseMethodDescriptor y.desc = some sig → argsL.length = sig.parameters.length)
    (hstack : g.stack = argsL.reverse ++ rest) (hW : 2 * g.monitorRoom + (rest.map fun v => v.category).sum ≤ W) (hdg : decode c.code g.pc = .ok (.invokestatic index, 3))
    (hpre : ∀ vm₁, s.WarmedH vm₁ → Pre ⟨T.setVm vm₁, locs, cells, slots⟩ argsL.toArray) :
    (∃ (v : Option Value) (vm₁ : Vm) (B : Pt), s.WarmedH vm₁ ∧ Stand p l e R s m args below meth c B.U B.locs B.cells B.slots ∧ Post ⟨T.setVm vm₁, locs, cells, slots⟩ argsL.toArray v B ∧
      ∀ target, Steps p.tables e below (B.U.setTop { g with pc := g.pc + 3, stack := v.toList ++ rest }) target → Steps p.tables e below (T.setTop g) target) ∨
    (∃ (q : Addr) (vm₁ : Vm) (B : Pt), s.WarmedH vm₁ ∧ Stand p l e R s m args below meth c B.U B.locs B.cells B.slots ∧ PostX ⟨T.setVm vm₁, locs, cells, slots⟩ argsL.toArray q B ∧
      Steps p.tables e below (T.setTop g) ((B.U.setTop { g with stack := rest }).pushFrame (.throwing q))) := by
  obtain ⟨mk, hnamed⟩ := Cond.code_named hcode
  obtain ⟨methM, cM, hmethM, -, -, -, -, -, -, hsigM⟩ := Cond.code_spec hnamed hcode
  have hstatic : methM.isStatic = true := Cond.static_spec hnamed hmethM hstat
  obtain ⟨kP, hkP, -⟩ := className_of_methodNamed hnamed
  have hinitP : kP.init = .initialized := Cond.initialized_spec (findClass_of_methodNamed hnamed) hkP hinit
  obtain ⟨vm₁, X₁, hstep₁⟩ := X.invokestaticNest hexec hown hlink hnamed hmethM hstatic hkP hinitP hy (g := g) hg (argsL := argsL) (rest := rest) (hlen _ hsigM) hstack hdg
  rcases hK m meth c ⟨T.setVm vm₁, locs, cells, slots⟩ { g with stack := rest } (.invokestatic index) mk argsL.toArray X₁ hg hsize hdg hW (X₁.named hnamed) (hpre vm₁ X₁.warmed) with ⟨v, B, X', hpost, hsteps⟩ | ⟨q, B, X', hpost, hsteps⟩
  · exact Or.inl ⟨v, vm₁, B, X₁.warmed, X', hpost, fun target h => hstep₁ _ fun acts => by rw [doInvoke_state]; exact hsteps.trans h⟩
  · exact Or.inr ⟨q, vm₁, B, X₁.warmed, X', hpost, hstep₁ _ fun acts => by rw [doInvoke_state]; exact hsteps⟩
theorem vx_runVN {y : MethodName} {bytes cc : ByteArray} {maxL nL mc ms n index : Nat} {ret : Option FieldType} {ws : List Cond} {rm : Room} {Pc : Array Value → State → Prop} {Qc : Array Value → State → Outcome → State → Prop} {XC : String → State → State → Prop} {free : Addr → Prop} {Ts : List Cond} {own C host : String} {b : Addr} {As rest : List Value} {g : JFrame}
    (S : CallFix p m c cc nL s args Ts own) (hM : vx_Met l y ws rm Pc Qc XC mc ms free) (cw : va_CN R s args own index y host bytes maxL ret ws rm mc ms n ∧ (Cond.instanceMethod y).before args s = true ∧ (Cond.selects C y y).before args s = true) (hp : PreV s H C b Pc As)
    (hg : g.method = m) (hn : As.length = n) (hsize : g.locals.size = nL) (hstack : g.stack = As.reverse ++ .ref b :: rest) (hW : 2 * g.monitorRoom + (rest.map fun v => v.category).sum ≤ 8) (hdg : decode cc g.pc = .ok (.invokevirtual index, 3)) (hf : cells + mc ≤ R.cells ∧ slots + ms ≤ R.slots) :
    vx_Run p l e R s m args below meth c H locs cells slots mc ms g rest (Qc (Value.ref b :: As).toArray) XC free := by
  obtain ⟨⟨⟨hrc, hrs, hfr, hlo, hws, hcw⟩, hcode, hini, hy, hlen, hl⟩, hx1, hx2⟩ := cw
  have hK : vx_Back l R p e below s args y 3 8 (PreOf R mc ms Pc) (PostOf Qc mc ms free) (vx_Post XC mc ms free) := vx_back (bytes := bytes) (maxL := maxL) (ret := ret) hM hp.1 hrc hrs hfr hlo hws hcw (fun a' U hW => word_at hW (Or.inl (by first | rfl | simp [Cond.onTables, Cond.keeps, Cond.steady])) hini)
  obtain ⟨hx, hb, hml, ho, -⟩ := S
  obtain ⟨-, ⟨cellB, hcB, hoB, hclB⟩, hPc⟩ := hp
  intro T hT X
  rcases vx_callVN X hx (C := C) (bytes := bytes) (maxL := maxL) (ret := ret) ho hl hx1 hx2 hcode hy hK (by rw [hT]; exact hcB) hoB hclB hg (hsize.trans hml.symm) (argsL := As) (rest := rest) (fun sig h => hn.trans (hlen sig h)) hstack hW (by rw [hb]; exact hdg)
    (fun vm₁ hW₁ => ⟨hf.1, hf.2, hPc (T.setVm vm₁) hT hW₁⟩) with ⟨v, vm₁, ⟨U', l2, c2, s2⟩, hW₁, X', ⟨g', mk, t, L, e1, e2, hq, h1, hL, h2, h3⟩, st⟩ | ⟨q, vm₁, ⟨U', l2, c2, s2⟩, hW₁, X', ⟨g', mk, t, L, E, ce, e1, e2, hq, hce, hcv, hcl, h1, hL, h2, h3⟩, st⟩
  · dsimp only [Pt.U, Pt.locs, Pt.cells, Pt.slots] at X' e1 e2 h1 h2 h3 st
    subst h1; subst h2; subst h3
    exact Or.inl ⟨v, (T.setVm vm₁).calling g' mk (Value.ref b :: As).toArray, t, U', L, hT, X', hL, e1, e2, hq, st⟩
  · dsimp only [Pt.U, Pt.locs, Pt.cells, Pt.slots] at X' e1 e2 h1 h2 h3 st hcl
    subst h1; subst h2; subst h3
    exact Or.inr ⟨q, (T.setVm vm₁).calling g' mk (Value.ref b :: As).toArray, t, U', L, E, ce, hT, X', hL, e1, e2, hq, hce, hcv, vx_cls hW₁ hcl, st⟩
theorem vx_runSN {y : MethodName} {bytes cc : ByteArray} {maxL nL mc ms n index : Nat} {ret : Option FieldType} {ws : List Cond} {rm : Room} {Pc : Array Value → State → Prop} {Qc : Array Value → State → Outcome → State → Prop} {XC : String → State → State → Prop} {free : Addr → Prop} {Ts : List Cond} {own host : String} {As rest : List Value} {g : JFrame}
    (S : CallFix p m c cc nL s args Ts own) (hM : vx_Met l y ws rm Pc Qc XC mc ms free) (cw : va_CN R s args own index y host bytes maxL ret ws rm mc ms n ∧ (Cond.static y).before args s = true ∧ True) (hp : PreS s H Pc As)
    (hg : g.method = m) (hn : As.length = n) (hsize : g.locals.size = nL) (hstack : g.stack = As.reverse ++ rest) (hW : 2 * g.monitorRoom + (rest.map fun v => v.category).sum ≤ 8) (hdg : decode cc g.pc = .ok (.invokestatic index, 3)) (hf : cells + mc ≤ R.cells ∧ slots + ms ≤ R.slots) :
    vx_Run p l e R s m args below meth c H locs cells slots mc ms g rest (Qc As.toArray) XC free := by
  obtain ⟨⟨⟨hrc, hrs, hfr, hlo, hws, hcw⟩, hcode, hini, hy, hlen, hl⟩, hx1, hx2⟩ := cw
  have hK : vx_Back l R p e below s args y 3 8 (PreOf R mc ms Pc) (PostOf Qc mc ms free) (vx_Post XC mc ms free) := vx_back (bytes := bytes) (maxL := maxL) (ret := ret) hM hp.1 hrc hrs hfr hlo hws hcw (fun a' U hW => word_at hW (Or.inl (by first | rfl | simp [Cond.onTables, Cond.keeps, Cond.steady])) hini)
  obtain ⟨hx, hb, hml, ho, -⟩ := S
  have hPc := hp.2
  intro T hT X
  rcases vx_callSN X hx (bytes := bytes) (maxL := maxL) (ret := ret) ho hl hx1 hini hcode hy hK hg (hsize.trans hml.symm) (argsL := As) (rest := rest) (fun sig h => hn.trans (hlen sig h)) hstack hW (by rw [hb]; exact hdg)
    (fun vm₁ hW₁ => ⟨hf.1, hf.2, hPc (T.setVm vm₁) hT hW₁⟩) with ⟨v, vm₁, ⟨U', l2, c2, s2⟩, hW₁, X', ⟨g', mk, t, L, e1, e2, hq, h1, hL, h2, h3⟩, st⟩ | ⟨q, vm₁, ⟨U', l2, c2, s2⟩, hW₁, X', ⟨g', mk, t, L, E, ce, e1, e2, hq, hce, hcv, hcl, h1, hL, h2, h3⟩, st⟩
  · dsimp only [Pt.U, Pt.locs, Pt.cells, Pt.slots] at X' e1 e2 h1 h2 h3 st
    subst h1; subst h2; subst h3
    exact Or.inl ⟨v, (T.setVm vm₁).calling g' mk As.toArray, t, U', L, hT, X', hL, e1, e2, hq, st⟩
  · dsimp only [Pt.U, Pt.locs, Pt.cells, Pt.slots] at X' e1 e2 h1 h2 h3 st hcl
    subst h1; subst h2; subst h3
    exact Or.inr ⟨q, (T.setVm vm₁).calling g' mk As.toArray, t, U', L, E, ce, hT, X', hL, e1, e2, hq, hce, hcv, vx_cls hW₁ hcl, st⟩
end
/-! ===== END ===== -/
/-! WHAT HOLDS OF THE START OF EVERY METHOD beside its memory: classes, statics, strings, words that are not good ones -/
def fNwb : Jvm.Cond → Bool
  | .methodLinkNest .. => true
  | .castable .. => true
  | .declares .. => true
  | _ => false
def fNw : List Jvm.Cond := lw_tbl.filter fNwb
def fStr : List (String × Nat × String) := [("PuddleBoatyard", 355, "no such hull or seam"), ("PuddleBoatyard", 357, "a number is out of range"), ("PuddleBoatyard", 359, "the boatyard or the hull does not allow it now"), ("PuddleBoatyard", 363, "the launch is refused"), ("PuddleBoatyard", 233, "no such order"), ("PuddleBoatyard", 369, "no such hull"), ("PuddleBoatyard", 90, "no such frame"), ("PuddleBoatyard", 106, "no such seam"), ("PuddleBoatyard", 371, "the hull cannot float"), ("PuddleBoatyard", 136, "no such rank"), ("PuddleBoatyard", 159, "hours out of range"), ("PuddleBoatyard", 373, "the hull is not built"), ("PuddleBoatyard", 375, "the hull is too short"), ("PuddleBoatyard", 168, "no tide is high enough"), ("PuddleBoatyard", 184, "the hull is not afloat"), ("PuddleBoatyard", 199, "it does not sink in this time"), ("PuddleBoatyard", 201, "no such slip"), ("PuddleBoatyard", 225, "no such position"), ("PuddleBoatyard", 250, "no such state"), ("PuddleBoatyard", 255, "no launch was refused"), ("PuddleBoatyard", 259, "there are no hulls"), ("PuddleBoatyard", 279, "no such character"), ("PuddleBoatyard", 284, "no such character can be typed"), ("PuddleBoatyard", 288, "the buffer is full"), ("PuddleBoatyard", 299, "the program is malformed"), ("PuddleBoatyard", 304, "a command fails"), ("PuddleBoatyard", 309, "no program was malformed"), ("PuddleBoatyard", 311, "no command failed"), ("PuddleBoatyard", 316, "nothing can be undone"), ("PuddleBoatyard", 328, "there is no snapshot")]
def fForm : List (Nat × String) := [(26, "hull"), (28, "frame # */*"), (30, "mirror #"), (32, "cargo # *"), (34, "launch #"), (36, "caulk # #"), (38, "pump # *"), (40, "hours *"), (42, "tide * *"), (44, "order # * *"), (46, "deliver * #")]
def fLen : List Nat := [4, 11, 8, 9, 8, 9, 8, 7, 8, 11, 11]
def fByt : List (List Int32) := [[104, 117, 108, 108], [102, 114, 97, 109, 101, 32, 35, 32, 42, 47, 42], [109, 105, 114, 114, 111, 114, 32, 35], [99, 97, 114, 103, 111, 32, 35, 32, 42], [108, 97, 117, 110, 99, 104, 32, 35], [99, 97, 117, 108, 107, 32, 35, 32, 35], [112, 117, 109, 112, 32, 35, 32, 42], [104, 111, 117, 114, 115, 32, 42], [116, 105, 100, 101, 32, 42, 32, 42], [111, 114, 100, 101, 114, 32, 35, 32, 42, 32, 42], [100, 101, 108, 105, 118, 101, 114, 32, 42, 32, 35]]
def fNcl : List (String × String) := [("java/lang/IllegalArgumentException", "java/lang/IndexOutOfBoundsException"), ("java/lang/IllegalStateException", "java/lang/IllegalArgumentException"), ("java/lang/IllegalStateException", "java/lang/IndexOutOfBoundsException"), ("java/lang/IllegalStateException", "java/util/NoSuchElementException"), ("java/lang/IndexOutOfBoundsException", "java/util/NoSuchElementException"), ("java/lang/UnsupportedOperationException", "java/lang/IllegalStateException"), ("java/lang/UnsupportedOperationException", "java/lang/IndexOutOfBoundsException"), ("java/util/NoSuchElementException", "java/lang/IllegalStateException"), ("java/util/NoSuchElementException", "java/lang/IndexOutOfBoundsException")]
/-- private methods of the builder's superclass, as her class selects them -/
def fSelw : List Jvm.Cond := [.selects RJ4 yJ5_ensureCapacityInternal_d00df yJ5_ensureCapacityInternal_d00df, .selects RJ4 yJ5_newCapacity_0f7a4 yJ5_newCapacity_0f7a4]
def fAI (U : State) : Prop := (Jvm.Cond.arrayOver (.array .int)).before #[] U = true
def fX (G : fG) (U : State) : Prop := va_Zq "jdk/internal/util/Preconditions" "SIOOBE_FORMATTER" "Ljava/util/function/BiFunction;" (fA G) U U.heap ∧ (∀ w ∈ fSelw, va_Nw w U) ∧ (∀ q ∈ fNcl, va_Nc q.1 q.2 U) ∧ va_AO "PuddleBoatyard$Hull" U ∧ va_AO "PuddleBoatyard$Yard" U ∧ fAI U
def fConst (G : fG) (U : State) : Prop := (∃ adV : Nat → Nat, vk_S 11 fLen fByt (fun i => G.1 (52, i, 0)) adV (fA G) U U.heap) ∧ (∀ i, i < 11 → vk_R "PuddleBoatyard$Program" (fForm.getD i (0, "")).1 (fForm.getD i (0, "")).2 (G.1 (52, i, 0)) U) ∧
  va_Z "java/lang/String" "COMPACT_STRINGS" "Z" (.int 1) (fA G) U U.heap ∧ (∃ t : Nat, va_Z "java/lang/Integer" "DigitOnes" "[B" (.ref t) (fA G) U U.heap ∧ va_T .byte t 100 (fun j => .int (nI (48 + j % 10))) (fA G) U U.heap) ∧ (∃ t : Nat, va_Z "java/lang/Integer" "DigitTens" "[B" (.ref t) (fA G) U U.heap ∧ va_T .byte t 100 (fun j => .int (nI (48 + j / 10))) (fA G) U U.heap) ∧ fX G U
def fPre (G : fG) (U : State) : Prop := va_K G.2.1 fcl (ftys G) U ∧ G.2.2.2 ≤ U.heap.size ∧ vx_Zq Bundle.tN "UNASSIGNED_STACK" Bundle.steD (fA G) U U.heap ∧ vx_Zq Bundle.tN "SUPPRESSED_SENTINEL" Bundle.listD (fA G) U U.heap ∧ (∀ w ∈ fNw, va_Nw w U) ∧ (∀ q ∈ fStr, ∃ a, vk_R q.1 q.2.1 q.2.2 a U) ∧ fConst G U
def fScr (G : fG) (o : Option (Nat × (Nat → Int32))) (U : State) : Prop := match o with
  | none => True
  | some X => va_X (G.1 (50, 0, 0)) X.1 X.2 U U.heap ∧ G.1 (50, 0, 0) < U.heap.size ∧ ¬ fA G (G.1 (50, 0, 0))
theorem fNw_warm {w : Jvm.Cond} {s U : State} (hb : fNwb w = true) (hW : s.WarmedH U.vm) (h : va_Nw w s) : va_Nw w U := by
  unfold fNwb at hb
  split at hb
  · exact va_Nw.warmM hW h
  · exact va_Nw.warmC hW h
  · exact va_Nw.warmD hW h
  · cases hb
theorem fNw_same {w : Jvm.Cond} {s U : State} (hb : fNwb w = true) (hv : s.vm = U.vm) (h : va_Nw w s) : va_Nw w U := by
  unfold fNwb at hb
  split at hb
  · exact va_Nw.same rfl hv h
  · exact va_Nw.same rfl hv h
  · exact va_Nw.same rfl hv h
  · cases hb
theorem fSelw_ok : ∀ w ∈ fSelw, w.onTables = true ∧ (w.onTables && w.keeps) = true := by
  intro w hw
  simp only [fSelw, List.mem_cons, List.not_mem_nil, or_false] at hw
  rcases hw with rfl | rfl <;> exact ⟨rfl, rfl⟩
theorem fX_to {G : fG} {s U : State} (hA : s.vm.Alike U.vm) (hT : ∀ w ∈ fSelw, va_Nw w s → va_Nw w U) (hq : ∀ a : Nat, a < s.heap.size → ¬ fA G a → U.heap[a]? = s.heap[a]?) (h : fX G s) : fX G U := ⟨(h.1.moved hA).kept hq, fun w hw => hT w hw (h.2.1 w hw), fun q hq => (h.2.2.1 q hq).moved hA, h.2.2.2.1.moved hA, h.2.2.2.2.1.moved hA, arrayOver_alikeB hA h.2.2.2.2.2⟩
theorem fConst_to {G : fG} {s U : State} (hA : s.vm.Alike U.vm) (hT : ∀ w ∈ fSelw, va_Nw w s → va_Nw w U) (hR : ∀ own k tx a, vk_R own k tx a s → vk_R own k tx a U) (hq : ∀ a : Nat, a < s.heap.size → ¬ fA G a → U.heap[a]? = s.heap[a]?) (h : fConst G s) : fConst G U := by
  obtain ⟨⟨adV, h1⟩, h2, h3, ⟨t, h4, h5⟩, ⟨t', h6, h7⟩, h8⟩ := h
  exact ⟨⟨adV, (h1.moved hA).kept hq⟩, fun i hi => hR _ _ _ _ (h2 i hi), (h3.moved hA).kept hq, ⟨t, (h4.moved hA).kept hq, (h5.moved hA).kept hq⟩, ⟨t', (h6.moved hA).kept hq, (h7.moved hA).kept hq⟩, fX_to hA hT hq h8⟩
theorem fPre_gen {G : fG} {s U : State} (hA : s.vm.Alike U.vm) (hT : ∀ w ∈ fSelw, va_Nw w s → va_Nw w U) (hR : ∀ own k tx a, vk_R own k tx a s → vk_R own k tx a U) (hN : ∀ w, fNwb w = true → va_Nw w s → va_Nw w U) (hz : s.heap.size ≤ U.heap.size) (hq : ∀ a : Nat, a < s.heap.size → ¬ fA G a → U.heap[a]? = s.heap[a]?) (h : fPre G s) : fPre G U := by
  obtain ⟨h1, h2, h3, h4, h5, h6, h7⟩ := h
  exact ⟨h1.moved hA, Nat.le_trans h2 hz, (h3.moved hA).kept hq, (h4.moved hA).kept hq, fun w hw => hN w (List.mem_filter.mp hw).2 (h5 w hw), fun q hq => (h6 q hq).elim fun a ha => ⟨a, hR _ _ _ _ ha⟩, fConst_to hA hT hR hq h7⟩
theorem fPre_warm {G : fG} {s U : State} {locs : List Loc} (hW : s.WarmedH U.vm) (hS : va_S (fA G) s.heap U.heap locs) (h : fPre G s) : fPre G U := fPre_gen hW.alike (fun w hw => word_at hW (Or.inl (fSelw_ok w hw).2)) (fun _ _ _ _ => vk_R.warm hW) (fun _ hb => fNw_warm hb hW) hS.1 hS.2.1 h
theorem fPre_same {G : fG} {s U : State} (hv : s.vm = U.vm) (hh : U.heap = s.heap) (h : fPre G s) : fPre G U := fPre_gen (by rw [← hv]; exact Vm.Alike.refl _) (fun w hw => va_Nw.same (fSelw_ok w hw).1 hv) (fun _ _ _ _ => vk_R.same hv.symm) (fun _ hb => fNw_same hb hv) (by rw [hh]; exact Nat.le_refl _) (fun a _ _ => by rw [hh]) h
/-! CONTRACTS -/
def fExn (n : Nat) : String := fexn.getD n ""
def fVok (v : fV) : Prop := match v with
  | .inl r => r ∈ frefs ∨ (50 ≤ r.1 ∧ (r.1 = 52 ∨ r.2.1 = 0) ∧ r.2.2 = 0)
  | .inr _ => True
def fQ (G : fG) (res : fR) : Array Value → State → Outcome → State → Prop := fun _ st o t => (∃ v, res.1 = .inl v ∧ o = .returned (v.map (ftv G)) ∧ (∀ x, v = some x → fVok x) ∧ fMem G res.2 t.heap) ∧ va_F (fA G) st t
def fXC (G : fG) (res : fR) : String → State → State → Prop := fun E st t => (∃ n, res.1 = .inr n ∧ E = fExn n ∧ fMem G res.2 t.heap) ∧ va_F (fA G) st t
def fPc (G : fG) (a : List fV) (μ : fM) : Array Value → State → Prop := fun v U => v = (a.map (ftv G)).toArray ∧ fPre G U ∧ fMem G μ U.heap
def fCT (G : fG) (l : Launch) (y : MethodName) (ws : List Jvm.Cond) (rm : Room) (S : fS) : Prop := ∀ (a : List fV) (μ : fM) (res : fR), S a μ = some res → (∀ v ∈ a, fVok v) → vx_Met l y ws rm (fPc G a μ) (fQ G res) (fXC G res) rm.cells rm.slots (fA G)
/-- what a caller's body has at hand -/
def fCx (G : fG) (p : Program) (l : Launch) (s : State) (m : MethodId) (args : Array Value) (meth : Method) (c : Code) (cc : ByteArray) (own : String) (nL : Nat) : Prop :=
  p.tables.exec = Jvm.exec ∧ c.code = cc ∧ c.maxLocals = nL ∧ s.vm.findClass own = some m.cls ∧ (∀ w ∈ fT, w.before args s = true) ∧ meth.locks = false ∧ l.stackTraces = false ∧ fWf G ∧ fPre G s
/-- a call of the flat machine, taken by the machine -/
def fCS (G : fG) (l : Launch) (own : String) (cc : ByteArray) (nL : Nat) (R : Room) (ins : Instr) (b : Nat) (S : fS) (mc ms : Nat) : Prop :=
  ∀ (p : Program) (e : Env) (s : State) (m : MethodId) (args : Array Value) (below : List Frame) (meth : Method) (c : Code) (H : Heap) (locs : List Loc) (cells slots : Nat) (Q : State → Prop) (pc : Nat) (ls : Array Slot), fCx G p l s m args meth c cc own nL → decode cc pc = .ok (ins, 3) → ls.size = nL →
  ∀ (as rest : List fV) (μ : fM) (res : fR), as.length = b → S as μ = some res → (∀ v ∈ as, fVok v) → fcats rest ≤ 8 → fMem G μ H → va_S (fA G) s.heap H locs → cells + mc ≤ R.cells → slots + ms ≤ R.slots →
  (∀ v, res.1 = .inl v → (∀ x, v = some x → fVok x) → ∀ (H1 : Heap) (locs1 : List Loc), fMem G res.2 H1 → va_S (fA G) s.heap H1 locs1 → W p l e R s m args below meth c H1 locs1 (cells + mc) (slots + ms) Q (F0 m (pc + 3) ls ((v.toList ++ rest).map (ftv G)))) →
  (∀ n, res.1 = .inr n → ∀ (H1 : Heap) (locs1 : List Loc) (q : Addr) (ce : Cell), fMem G res.2 H1 → va_S (fA G) s.heap H1 locs1 → H1[q]? = some ce → ce.vm = .none → s.vm.findClass (fExn n) = some ce.cls → vx_W p l e R s m args below meth c H1 locs1 (cells + mc) (slots + ms) Q (F0 m pc ls (rest.map (ftv G))) q) →
  W p l e R s m args below meth c H locs cells slots Q (F0 m pc ls ((as.reverse ++ rest).map (ftv G)))
theorem fcats_sum (G : fG) : ∀ r : List fV, ((r.map (ftv G)).map fun v => v.category).sum = fcats r
  | [] => rfl
  | v :: r => by
    simp only [List.map_cons, List.sum_cons, fcats, ftv_cat]
    rw [fcats_sum G r]
section FCS
variable {p : Program} {l : Launch} {e : Env} {R : Room} {s : State} {m : MethodId} {args : Array Value} {below : List Frame} {meth : Method} {c : Code} {H : Heap} {locs : List Loc} {cells slots mc ms : Nat} {Q : State → Prop} {pc : Nat} {ls : Array Slot} {G : fG}
theorem fcs_run {res : fR} {rest : List fV} {st0 : List Value} {a : Array Value} (hr : vx_Run p l e R s m args below meth c H locs cells slots mc ms (F0 m pc ls st0) (rest.map (ftv G)) (fQ G res a) (fXC G res) (fA G)) (hS : va_S (fA G) s.heap H locs)
    (kk : ∀ v, res.1 = .inl v → (∀ x, v = some x → fVok x) → ∀ (H1 : Heap) (locs1 : List Loc), fMem G res.2 H1 → va_S (fA G) s.heap H1 locs1 → W p l e R s m args below meth c H1 locs1 (cells + mc) (slots + ms) Q (F0 m (pc + 3) ls ((v.toList ++ rest).map (ftv G))))
    (kx : ∀ n, res.1 = .inr n → ∀ (H1 : Heap) (locs1 : List Loc) (q : Addr) (ce : Cell), fMem G res.2 H1 → va_S (fA G) s.heap H1 locs1 → H1[q]? = some ce → ce.vm = .none → s.vm.findClass (fExn n) = some ce.cls → vx_W p l e R s m args below meth c H1 locs1 (cells + mc) (slots + ms) Q (F0 m pc ls (rest.map (ftv G))) q) :
    W p l e R s m args below meth c H locs cells slots Q (F0 m pc ls st0) := by
  intro T hT X
  rcases hr T hT X with ⟨v, st₀, t, T', L, h0, X', hL, e1, e2, ⟨⟨v', hv', ho, hok, hm⟩, hF⟩, st⟩ | ⟨q, st₀, t, T', L, E, ce, h0, X', hL, e1, e2, ⟨⟨n, hn, hE, hm⟩, hF⟩, hce, hcv, hcl, st⟩
  · cases ho
    obtain ⟨k1, k2, k3⟩ := vx_keep h0 e1 hS (fun _ _ h => h) (fun _ h => h) hL hF
    obtain ⟨t2, a1, b1⟩ := kk v' hv' hok T'.heap (locs ++ L) (by rw [e1]; exact hm) k3 T' rfl X'
    refine ⟨t2, st t2 ?_, b1⟩
    have e9 : ((v'.map (ftv G)).toList ++ rest.map (ftv G)) = (v'.toList ++ rest).map (ftv G) := by
      cases v' <;> simp
    rw [e9]
    exact a1
  · subst hE
    obtain ⟨k1, k2, k3⟩ := vx_keep h0 e1 hS (fun _ _ h => h) (fun _ h => h) hL hF
    obtain ⟨t2, a1, b1⟩ := kx n hn T'.heap (locs ++ L) q ce (by rw [e1]; exact hm) k3 (by rw [e1]; exact hce) hcv hcl T' rfl X'
    exact ⟨t2, st.trans a1, b1⟩
theorem fPc_blind {a : List fV} {μ : fM} : FrameBlind (fPc G a μ) := fun a' U g mk h => ⟨h.1, fPre_same (s := U) (U := U.calling g mk a') rfl rfl h.2.1, h.2.2⟩
theorem fPc_in {as : List fV} {μ : fM} (hP : fPre G s) (hM : fMem G μ H) (hS : va_S (fA G) s.heap H locs) : ∀ U : State, U.heap = H → s.WarmedH U.vm → fPc G as μ (as.map (ftv G)).toArray U := fun U hU hW => ⟨rfl, fPre_warm (locs := locs) hW (by rw [hU]; exact hS) hP, by rw [hU]; exact hM⟩
end FCS
/-! the words of a callee: its code ahead of fT -/
abbrev fw0 (y : MethodName) (cy : ByteArray) (n : Nat) (ret : Option FieldType) : List Jvm.Cond := Jvm.Cond.code y cy n ret :: fT
def fhd (y : MethodName) (b : Nat) : Prop := y.cls ≠ "java/lang/invoke/MethodHandle" ∧ y.cls ≠ "java/lang/invoke/VarHandle" ∧ (parseMethodDescriptor y.desc).map (fun d => d.parameters.length) = some b
theorem fT_fw0 {y : MethodName} {cy : ByteArray} {n : Nat} {ret : Option FieldType} (h : Jvm.Cond.code y cy n ret ∈ fT) : GoodIn fT (fw0 y cy n ret) := fun w hw => by
  have : w ∈ fT := (List.mem_cons.mp hw).elim (fun e => e ▸ h) id
  exact ⟨this, good_of_word (fT_good this)⟩
section FCB
variable {p : Program} {l : Launch} {e : Env} {R : Room} {s : State} {m : MethodId} {args : Array Value} {below : List Frame} {meth : Method} {c : Code}
theorem fCallB {own : String} {idx n : Nat} {y : MethodName} {cy : ByteArray} {ret : Option FieldType} {rm : Room} {b : Nat} (hts : ∀ w ∈ fT, w.before args s = true) (hcode : Jvm.Cond.code y cy n ret ∈ fT) (hini : Jvm.Cond.initialized y.cls ∈ fT) (hl : Jvm.Cond.methodLink own idx y ∈ fT) (hd : fhd y b) (hR : rm.frames + 1 ≤ R.frames ∧ 8 + (n + 11) + rm.locals ≤ R.locals) :
    CallB R s args own idx y cy n ret (fw0 y cy n ret) rm rm.cells rm.slots b := callB_of b hts (fT_fw0 hcode) rfl rfl rfl (hts _ hini) (hts _ hl) hd hR
end FCB
/-- a virtual call -/
theorem fCS_V {G : fG} {l : Launch} {own : String} {cc : ByteArray} {nL idx n b : Nat} {R rm : Room} {y : MethodName} {cy : ByteArray} {ret : Option FieldType} {S : fS} {kd : Nat} (hc : fCT G l y (fw0 y cy n ret) rm S) (hkd : kd < 9) (hy : (fct kd).1 = y.cls) (hcode : Jvm.Cond.code y cy n ret ∈ fT) (hini : Jvm.Cond.initialized y.cls ∈ fT) (hl : Jvm.Cond.methodLink own idx y ∈ fT) (hins : Jvm.Cond.instanceMethod y ∈ fT) (hsel : Jvm.Cond.selects y.cls y y ∈ fT) (hd : fhd y b)
    (hR : rm.frames + 1 ≤ R.frames ∧ 8 + (n + 11) + rm.locals ≤ R.locals) (hrecv : ∀ as μ res, S as μ = some res → ∃ y' h r, as = .inl (kd, y', h) :: r) : fCS G l own cc nL R (.invokevirtual idx) (b + 1) S rm.cells rm.slots := by
  intro p e s m args below meth c H locs cells slots Q pc ls C hdg hls as rest μ res hlen hS hok hcat hM hSS hcl hsl kk kx
  obtain ⟨hx, hb, hml, hown, hts, hlocks, hst, hG, hP⟩ := C
  obtain ⟨y', h', r, rfl⟩ := hrecv as μ res hS
  have hr0 : (kd, y', h') ∈ frefs := by
    rcases hok _ List.mem_cons_self with h | h
    · exact h
    · exact absurd h.1 (by show ¬ 50 ≤ kd; omega)
  obtain ⟨j, hj⟩ := fidx hr0
  have hrv := va_recv (q := fct kd) (ci := kd) (q0 := j) hP.1 hM.1 (fcl_at kd hkd) (by rw [fws_at hj, fcell_o hkd])
  rw [hy] at hrv
  refine fcs_run (res := res) (rest := rest) (a := (Value.ref (G.1 (kd, y', h')) :: r.map (ftv G)).toArray) (vx_runV (As := r.map (ftv G)) (C := y.cls) (b := G.1 (kd, y', h')) (Ts := fT) (own := own) (nL := nL) (n := b) ⟨hx, hb, hml, hown, hts⟩ (hc _ _ _ hS hok) ⟨fCallB hts hcode hini hl hd hR, hts _ hins, hts _ hsel⟩ ⟨fPc_blind, hrv, fun U hU hW => fPc_in hP hM hSS U hU hW⟩ rfl (by simpa using hlen) hls (by simp [ftv]) (by rw [fcats_sum]; show 2 * 0 + _ ≤ 8; omega) hdg ⟨hcl, hsl⟩) hSS kk kx
/-- a static call of a method of any class, named by its own link -/
theorem fCS_S {G : fG} {l : Launch} {own : String} {cc : ByteArray} {nL idx n b : Nat} {R rm : Room} {y : MethodName} {cy : ByteArray} {ret : Option FieldType} {S : fS} (hc : fCT G l y (fw0 y cy n ret) rm S) (hcode : Jvm.Cond.code y cy n ret ∈ fT) (hini : Jvm.Cond.initialized y.cls ∈ fT) (hl : Jvm.Cond.methodLink own idx y ∈ fT) (hst : Jvm.Cond.static y ∈ fT) (hd : fhd y b)
    (hR : rm.frames + 1 ≤ R.frames ∧ 8 + (n + 11) + rm.locals ≤ R.locals) : fCS G l own cc nL R (.invokestatic idx) b S rm.cells rm.slots := by
  intro p e s m args below meth c H locs cells slots Q pc ls C hdg hls as rest μ res hlen hS hok hcat hM hSS hcl hsl kk kx
  obtain ⟨hx, hb, hml, hown, hts, hlocks, hst', hG, hP⟩ := C
  refine fcs_run (res := res) (rest := rest) (a := (as.map (ftv G)).toArray) (vx_runS (As := as.map (ftv G)) (Ts := fT) (own := own) (nL := nL) (n := b) ⟨hx, hb, hml, hown, hts⟩ (hc _ _ _ hS hok) ⟨fCallB hts hcode hini hl hd hR, hts _ hst⟩ ⟨fPc_blind, fun U hU hW => fPc_in hP hM hSS U hU hW⟩ rfl (by simpa using hlen) hls (by simp) (by rw [fcats_sum]; show 2 * 0 + _ ≤ 8; omega) hdg ⟨hcl, hsl⟩) hSS kk kx
/-- a static call of a nest mate's private method -/
theorem fCS_SN {G : fG} {l : Launch} {own host : String} {cc : ByteArray} {nL idx n b : Nat} {R rm : Room} {y : MethodName} {cy : ByteArray} {ret : Option FieldType} {S : fS} (hc : fCT G l y (fw0 y cy n ret) rm S) (hcode : Jvm.Cond.code y cy n ret ∈ fT) (hini : Jvm.Cond.initialized y.cls ∈ fT) (hl : Jvm.Cond.methodLinkNest own idx y host ∈ fNw) (hst : Jvm.Cond.static y ∈ fT) (hd : fhd y b)
    (hR : rm.frames + 1 ≤ R.frames ∧ 8 + (n + 11) + rm.locals ≤ R.locals) : fCS G l own cc nL R (.invokestatic idx) b S rm.cells rm.slots := by
  intro p e s m args below meth c H locs cells slots Q pc ls C hdg hls as rest μ res hlen hS hok hcat hM hSS hcl hsl kk kx
  obtain ⟨hx, hb, hml, hown, hts, hlocks, hst', hG, hP⟩ := C
  refine fcs_run (res := res) (rest := rest) (a := (as.map (ftv G)).toArray) (vx_runSN (As := as.map (ftv G)) (Ts := fT) (own := own) (nL := nL) (n := b) ⟨hx, hb, hml, hown, hts⟩ (hc _ _ _ hS hok) ⟨va_cnB b hts (fT_fw0 hcode) rfl rfl rfl (hP.2.2.2.2.1 _ hl) (hts _ hini) hd hR, hts _ hst, trivial⟩ ⟨fPc_blind, fun U hU hW => fPc_in hP hM hSS U hU hW⟩ rfl (by simpa using hlen) hls (by simp) (by rw [fcats_sum]; show 2 * 0 + _ ≤ 8; omega) hdg ⟨hcl, hsl⟩) hSS kk kx
