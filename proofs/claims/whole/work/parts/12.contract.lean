section FMAIN
variable {p : Program} {l : Launch} {e : Env} {R : Room} {s : State} {m : MethodId} {args : Array Value} {below : List Frame} {meth : Method} {c : Code} {G : fG} {cc : ByteArray} {own : String} {nL MC MS : Nat} {res : fR}
variable {ret : Option FieldType} {Z : fT5} {E : fE}
set_option maxHeartbeats 4000000 in
/-- SOUNDNESS: the flat machine's answer is the machine's -/
theorem fsound {t : fTb} (C : fCx G p l s m args meth c cc own nL) (hT : fokT cc nL ret Z t = true) (hr : meth.sig.returnType = ret) (hE : E.2.1 = (MC, MS)) (hR : MC ≤ R.cells ∧ MS ≤ R.slots) (hex : E.2.2.1 = [] → ∀ x ∈ c.exceptionTable.toList, False) (hhn : ∀ pc x nx a, fhand E.2.2.1 pc x = some (nx, a) → fHN p l e R s m args below meth c G nL pc x nx a)
    (hfl : ffl_ok own Z.1) (hcs : ∀ x ∈ Z.2.1, ∃ f, E.1[x.2.1]? = some f ∧ fCS G l own cc nL R x.1 x.2.2 f.1 f.2.1 f.2.2) (hth : ∀ x ∈ Z.2.2.1, fTH G l own cc nL R x.1 x.2) (hlc : ∀ q ∈ Z.2.2.2.1, Jvm.Cond.constantLong own q.1 (Int64.ofNat q.2) ∈ fT) (hli : ∀ q ∈ Z.2.2.2.2.1, Jvm.Cond.constant own q.1 q.2 ∈ fT) (hlst : ∀ q ∈ Z.2.2.2.2.2, vk_R own q.1 (fForm.getD q.2 (0, "")).2 (G.1 (52, q.2, 0)) s) (hscr : fScr G E.2.2.2 s) :
    ∀ n, fGo p l e R s m args below meth c G nL MC MS res (frun E t n) := by
  intro n
  induction n with
  | zero => intro pc L S μ k1 n1 H locs ls h; cases h
  | succ n K =>
    intro pc L S μ k1 n1 H locs ls h hs
    unfold frun at h
    cases ho : flk t pc with
    | none => rw [ho] at h; cases h
    | some o =>
      rw [ho] at h
      obtain ⟨ln, hd, hk⟩ := fokT_at hT ho
      obtain ⟨ins, nx, a, b, v, ts⟩ := o
      simp only at h hd
      cases ins
      case iconst => exact fs_iconst C hd hk K h hs
      case bipush => exact fs_bipush C hd hk K h hs
      case sipush => exact fs_sipush C hd hk K h hs
      case lconst => exact fs_lconst C hd hk K h hs
      case dconst => exact fs_dconst C hd hk K h hs
      case iload => exact fs_iload C hd hk K h hs
      case aload => exact fs_aload C hd hk K h hs
      case lload => exact fs_lload C hd hk K h hs
      case dload => exact fs_dload C hd hk K h hs
      case iload_n => exact fs_iload_n C hd hk K h hs
      case aload_n => exact fs_aload_n C hd hk K h hs
      case lload_n => exact fs_lload_n C hd hk K h hs
      case istore => exact fs_istore C hd hk K h hs
      case istore_n => exact fs_istore_n C hd hk K h hs
      case astore => exact fs_astore C hd hk K h hs
      case astore_n => exact fs_astore_n C hd hk K h hs
      case dstore => exact fs_dstore C hd hk K h hs
      case iinc => exact fs_iinc C hd hk K h hs
      case iadd => exact fs_iadd C hd hk K h hs
      case isub => exact fs_isub C hd hk K h hs
      case imul => exact fs_imul C hd hk K h hs
      case iand => exact fs_iand C hd hk K h hs
      case ior => exact fs_ior C hd hk K h hs
      case ixor => exact fs_ixor C hd hk K h hs
      case ishl => exact fs_ishl C hd hk K h hs
      case ishr => exact fs_ishr C hd hk K h hs
      case iushr => exact fs_iushr C hd hk K h hs
      case ladd => exact fs_ladd C hd hk K h hs
      case lcmp => exact fs_lcmp C hd hk K h hs
      case idiv => exact fs_idiv C hd hk K h hs
      case irem => exact fs_irem C hd hk K h hs
      case ddiv => exact fs_ddiv C hd hk K h hs
      case dcmp => exact fs_dcmp C hd hk K h hs
      case i2l => exact fs_i2l C hd hk K h hs
      case l2i => exact fs_l2i C hd hk K h hs
      case i2c => exact fs_i2c C hd hk K h hs
      case i2d => exact fs_i2d C hd hk K h hs
      case dup => exact fs_dup C hd hk K h hs
      case pop => exact fs_pop C hd hk K h hs
      case dup2 => exact fs_dup2 C hd hk K h hs
      case if_icmp => exact fs_icmp C hd hk K h hs
      case ifCond => exact fs_ifc C hd hk K h hs
      case goto => exact fs_goto C hd hk K h hs
      case tableswitch => exact fs_table C hd hk K h hs
      case baload => exact fs_baload C hd hk K h hs
      case caload => exact fs_caload C hd hk K h hs
      case laload => exact fs_laload C hd hk K h hs
      case daload => exact fs_daload C hd hk K h hs
      case aaload => exact fs_aaload C hd hk K h hs
      case iastore => exact fs_iastore C hd hk K h hs
      case bastore => exact fs_bastore C hd hk K h hs
      case castore => exact fs_castore C hd hk K h hs
      case lastore => exact fs_lastore C hd hk K h hs
      case dastore => exact fs_dastore C hd hk K h hs
      case ldc2_w => exact fs_ldc2 C hd hk hlc K h hs
      case ldc_w => exact fs_ldcw C hd hk hli K h hs
      case ldc => exact fs_ldc C hd hk hli hlst K h hs
      case iaload => exact fs_iaload C hd hk hscr K h hs
      case arraylength => exact fs_alen C hd hk hscr K h hs
      case getfield => exact fs_getfield C hd hk hfl K h hs
      case putfield => exact fs_putfield C hd hk hfl K h hs
      case ireturn => exact fs_ireturn C hd hk hr K h hs
      case lreturn => exact fs_lreturn C hd hk hr K h hs
      case dreturn => exact fs_dreturn C hd hk hr K h hs
      case areturn => exact fs_areturn C hd hk hr K h hs
      case return_ => exact fs_return C hd hk hr K h hs
      case new => exact fs_new C hd hk hE hR hth hex K h hs
      case invokevirtual x =>
        simp only [fok, Bool.and_eq_true, decide_eq_true_eq] at hk
        obtain ⟨rfl, rfl, hk⟩ := hk
        exact fs_call C hd (fcs_any hk) hE hR hex hhn hcs K h hs
      case invokespecial x =>
        simp only [fok, Bool.and_eq_true, decide_eq_true_eq] at hk
        obtain ⟨rfl, rfl, hk⟩ := hk
        exact fs_call C hd (fcs_any hk) hE hR hex hhn hcs K h hs
      case invokestatic x =>
        simp only [fok, Bool.and_eq_true, decide_eq_true_eq] at hk
        obtain ⟨rfl, rfl, hk⟩ := hk
        exact fs_call C hd (fcs_any hk) hE hR hex hhn hcs K h hs
      all_goals cases h
end FMAIN
theorem fargs_mem : ∀ {a : List fV} {v : fV}, some v ∈ fargs a → v ∈ a
  | w :: r, v, h => by
    unfold fargs at h
    cases hb : Nat.ble 2 (ftag w) <;> rw [hb] at h
    · rcases List.mem_cons.mp h with h | h
      · cases h; exact List.mem_cons_self
      · exact List.mem_cons_of_mem _ (fargs_mem h)
    · rcases List.mem_cons.mp h with h | h
      · cases h; exact List.mem_cons_self
      · rcases List.mem_cons.mp h with h | h
        · cases h
        · exact List.mem_cons_of_mem _ (fargs_mem h)
theorem fofW {l : Launch} {y : MethodName} {ws ws' : List Cond} {rm : Room} {Pc : Array Value → State → Prop} {Qc : Array Value → State → Outcome → State → Prop} {XC : String → State → State → Prop} {mc ms : Nat} {free : Addr → Prop} {cc : ByteArray} {maxL : Nat} {ret : Option FieldType}
    (hy : plainFor y = true) (hw : ws = Cond.code y cc maxL ret :: ws')
    (body : ∀ p e s m args below meth c s₁, BodyLoose p l y (headSpec ws rm) cc maxL ret e s m args below meth c s₁ → c.maxLocals = maxL → (∀ x ∈ c.exceptionTable.toList, False) → Pc args s →
      W p l e (headSpec ws rm).room s m args below meth c s.heap [] 0 0 (vx_MQ below Qc XC args s mc ms free) (entryFrame m args maxL)) : vx_Met l y ws rm Pc Qc XC mc ms free := by
  refine MetFree.of_bodySF (code := cc) (maxLocals := maxL) (ret := ret) hy ?_ ?_
  · intro args s m h hn
    obtain ⟨meth, c, h1, h2, h3, h4, h5, h6, -, -⟩ := Cond.code_spec hn (atoms_spec (ws := ws) h _ (by rw [hw]; exact List.mem_cons_self))
    exact ⟨meth, c, h1, h2, h3, h4, h5, h6⟩
  · intro p e s m args below meth c s₁ B hml hP _
    have hh0 : s₁.heap = s.heap := by rw [B.state]; rfl
    have ht : ∀ x ∈ c.exceptionTable.toList, False := by
      obtain ⟨meth9, c9, h1, h2, -, -, -, -, h7, -⟩ := Cond.code_spec B.named (atoms_spec (ws := ws) B.pre _ (by rw [hw]; exact List.mem_cons_self))
      cases Option.some.inj (h1.symm.trans B.method)
      cases Option.some.inj (h2.symm.trans (Stand.of_body B).code)
      intro x hx
      rw [Array.isEmpty_iff.mp h7] at hx
      cases hx
    obtain ⟨t, a1, o, b1, b2, b3⟩ := body p e s m args below meth c s₁ B hml ht hP s₁ hh0 (Stand.of_body B)
    exact ⟨t, o, a1, b1, b2, b3⟩
/-- A CONTRACT out of the flat machine's run (a method without handlers) -/
theorem fcontract {G : fG} {l : Launch} {y : MethodName} {cc : ByteArray} {nL : Nat} {ret : Option FieldType} {own : String} {rm : Room} {E : fE} {t : fTb} {Z : fT5} {S : fS} (hl : l.stackTraces = false) (hG : fWf G) (hy : plainFor y = true) (hown : y.cls = own) (hT : fokT cc nL ret Z t = true) (hE : E.2.1 = (rm.cells, rm.slots)) (hE0 : E.2.2 = ([], none)) (hfl : ffl_ok own Z.1)
    (hcs : ∀ x ∈ Z.2.1, ∃ f, E.1[x.2.1]? = some f ∧ fCS G l own cc nL rm x.1 x.2.2 f.1 f.2.1 f.2.2) (hth : ∀ x ∈ Z.2.2.1, fTH G l own cc nL rm x.1 x.2) (hlc : ∀ q ∈ Z.2.2.2.1, Jvm.Cond.constantLong own q.1 (Int64.ofNat q.2) ∈ fT) (hli : ∀ q ∈ Z.2.2.2.2.1, Jvm.Cond.constant own q.1 q.2 ∈ fT) (hlst : ∀ q ∈ Z.2.2.2.2.2, own = "PuddleBoatyard$Program" ∧ q.2 < 11 ∧ (fForm.getD q.2 (0, "")).1 = q.1)
    (hS : ∀ a μ res, S a μ = some res → (fargs a).length ≤ nL ∧ fEnds (fun n => frun E t n 0 (fentry a nL) [] μ 0 0) res) : fCT G l y (fw0 y cc nL ret) rm S := by
  intro a μ res hres hok
  obtain ⟨hlen, n, hn⟩ := hS a μ res hres
  refine fofW (cc := cc) (maxL := nL) (ret := ret) hy rfl ?_
  intro p e s m args below meth c s₁ B hml hex hv
  obtain ⟨rfl, hP, hM⟩ := hv
  have hts : ∀ w ∈ fT, w.before (a.map (ftv G)).toArray s = true := fun w hw => atoms_spec (ws := fw0 y cc nL ret) B.pre w (List.mem_cons_of_mem _ hw)
  have hown' : s.vm.findClass own = some m.cls := by rw [← hown]; exact findClass_of_methodNamed B.named
  have C : fCx G p l s m (a.map (ftv G)).toArray meth c cc own nL := ⟨B.exec, B.bytes, hml, hown', hts, B.notSynchronized, hl, hG, hP⟩
  rw [lg_entry_eq]
  refine fsound (R := (headSpec (fw0 y cc nL ret) rm).room) (ret := ret) (Z := Z) (E := E) (res := res) (MC := rm.cells) (MS := rm.slots) C hT B.returns hE ⟨Nat.le_refl _, Nat.le_refl _⟩ (fun _ => hex) ?_ hfl hcs hth hlc hli ?_ ?_ n 0 (fentry a nL) [] μ 0 0 s.heap [] _ hn ⟨hM, va_S.rf, fentry_LH G a hlen, ?_, fun _ h => (List.not_mem_nil h).elim, Nat.zero_le _, Nat.zero_le _⟩
  · intro pc x nx a' h
    rw [hE0] at h
    cases h
  · intro q hq
    obtain ⟨h1, h2, h3⟩ := hlst q hq
    have h9 := hP.2.2.2.2.2.2.2.1 q.2 h2
    rw [h3] at h9
    rw [h1]
    exact h9
  · rw [hE0]
    trivial
  · intro i v hi
    refine hok v ?_
    have hm := List.mem_of_getElem? hi
    unfold fentry at hm
    rcases List.mem_append.mp hm with hm | hm
    · exact fargs_mem hm
    · rw [List.mem_replicate] at hm
      cases hm.2
