/-! THE CLAIM OUT OF ONE WALK OF THE LAW'S BODY. Your part is whole_start (and what it stands on); all else here is the same for every law, but numbers. -/
def R_law : String := "PuddleBoatyardLaw"
def lw_P (b : Addr) (xs : List Int32) (args : Array Value) (s : State) : Prop := args = #[.ref b] ∧ s.IntsAt b xs ∧ xs.length ≤ 2048 ∧ (Jvm.Cond.and given_1 narrow_1).before args s = true
/-- what a walk over the start with the record d0 says of its end, said of the start itself -/
theorem lw_closed {s t : State} {o : Outcome} {d0 : Drawn} {L : List Loc} {k n : Nat} (hd0 : s.drawn.sameBut d0 lw_cs) (hv : ∃ v, o = .returned v) (hW : (s.setDrawn d0).WarmedH t.vm) (hs : (s.setDrawn d0).sameButNew ({ t with vm := s.vm } : State) L k n) : State.butDraws s t lw_cs (fun t1 => Framed s o t1 L k n) := by
  have h2 : t.drawn = d0 := congrArg State.drawn hs.1
  refine ⟨⟨hv, hW, State.sameButNew.setDrawn hs s.drawn⟩, ?_, by decide⟩
  rw [h2]
  exact hd0
def lw_Q (_ : Array Value) (s : State) (o : Outcome) (t : State) : Prop := o = .returned (some (.int 1)) ∧ State.butDraws s t lw_cs (fun t1 => Framed s o t1 [] 603072 7190634)
def lw_Z (below : List Frame) (a : Array Value) (s : State) : State → Prop := fun t => ∃ o, t.status = .running ∧ Ended t below o ∧ lw_Q a s o t
/-- the law's own end, with 1 on the stack, nothing written that was there before, its room as the claim has it; d0: the record of draws at this point (at the entry s.drawn: begin with 'refine W.base ?_' and 'have hd0 := Drawn.sameBut.refl s.drawn lw_cs') -/
theorem lw_ret {p : Program} {l : Launch} {e : Env} {s : State} {m : MethodId} {below : List Frame} {meth : Method} {c : Code} {b : Nat} {d0 : Drawn} (hd0 : s.drawn.sameBut d0 lw_cs) (hx : p.tables.exec = Jvm.exec) (hb : c.code = code) (hr : meth.sig.returnType = ret) (hlocks : meth.locks = false) {pc : Nat} {H : Heap} {ls : Array Slot} (hdg : decode code pc = .ok (.ireturn, 1)) : W p l e room_1 (s.setDrawn d0) m #[Value.ref b] below meth c H [] 603072 7190634 (lw_Z below #[Value.ref b] s) (F0 m pc ls [.int 1]) := by
  intro T hT X
  obtain ⟨fs, hret, hrun, hended, hW, hframe⟩ := X.leave (v := some (.int 1)) (hlocks := hlocks) (fun h => by rw [hr] at h; cases h)
  have hmeth' : T.vm.method? m = some meth := X.method'
  refine ⟨T.setFrames fs, ?_, .returned (some (.int 1)), hrun, hended, rfl, lw_closed hd0 ⟨_, rfl⟩ hW hframe⟩
  jvm_step X.here [X.here.top, hx, hb, hdg, hmeth', hr, ret, narrow_b1]
  (try refine ⟨rfl, ?_⟩); (try refine ⟨rfl, ?_⟩)
  first | (intro acts; rw [hret _ acts rfl rfl rfl]) | rw [hret _ _ rfl rfl rfl]
  exact Steps.refl _
/-- what holds at the law's entry: the machine, the code, the tables' words (any of lw_tbl by 'hts w (by decide +kernel)'), the script of L ints xs at the cell b, what the Statement gives of the start (any of its parts by flat_of_before) -/
def lw_At (p : Program) (s : State) (m : MethodId) (meth : Method) (c : Code) (b L : Nat) (xs : Nat → Int32) : Prop :=
  p.tables.exec = Jvm.exec ∧ c.code = code ∧ meth.sig.returnType = ret ∧ c.maxLocals = 9 ∧ s.vm.findClass R_law = some m.cls ∧ (∀ w ∈ lw_tbl, w.before #[Value.ref b] s = true) ∧ va_X b L xs s s.heap ∧ b < s.heap.size ∧ meth.locks = false ∧ (Jvm.Cond.and given_1 narrow_1).before #[Value.ref b] s = true ∧ ∀ x ∈ c.exceptionTable.toList, False
theorem d_law_0 : decode code 0 = .ok (.new 8, 3) := by decide +kernel
theorem d_law_3 : decode code 3 = .ok (.dup, 1) := by decide +kernel
theorem d_law_4 : decode code 4 = .ok (.invokespecial 163, 3) := by decide +kernel
theorem d_law_7 : decode code 7 = .ok (.astore_n 1, 1) := by decide +kernel
theorem d_law_8 : decode code 8 = .ok (.new 164, 3) := by decide +kernel
theorem d_law_11 : decode code 11 = .ok (.dup, 1) := by decide +kernel
theorem d_law_12 : decode code 12 = .ok (.invokespecial 166, 3) := by decide +kernel
theorem d_law_15 : decode code 15 = .ok (.astore_n 2, 1) := by decide +kernel
theorem d_law_16 : decode code 16 = .ok (.iconst 1, 1) := by decide +kernel
theorem d_law_17 : decode code 17 = .ok (.newarray .long, 2) := by decide +kernel
theorem d_law_19 : decode code 19 = .ok (.astore_n 3, 1) := by decide +kernel
theorem d_law_20 : decode code 20 = .ok (.iconst 1, 1) := by decide +kernel
theorem d_law_21 : decode code 21 = .ok (.newarray .double, 2) := by decide +kernel
theorem d_law_23 : decode code 23 = .ok (.astore 4, 2) := by decide +kernel
theorem d_law_25 : decode code 25 = .ok (.iconst 0, 1) := by decide +kernel
theorem d_law_26 : decode code 26 = .ok (.istore 5, 2) := by decide +kernel
set_option maxRecDepth 100000 in
theorem bw_x8t : Jvm.Cond.code yX8_init cX8_init 2 none ∈ tables_1_7 := List.mem_of_getElem? (i := 51) rfl
theorem bw_x8 : Jvm.Cond.code yX8_init cX8_init 2 none ∈ fT := by
  refine List.mem_filter.mpr ⟨?_, rfl⟩
  unfold lw_tbl tables_1
  exact List.mem_append_right _ (List.mem_append_right _ (List.mem_append_right _ (List.mem_append_right _ (List.mem_append_right _ (List.mem_append_right _ (List.mem_append_right _ (List.mem_append_left _ bw_x8t)))))))
theorem eL1 : wL1.length = 402 := by decide +kernel
theorem eL2 : wL2.length = 413 := by decide +kernel
theorem eL3 : (wL2 ++ ([.inr (3, 1, [])] : bWs)).length = 414 := by rw [List.length_append, eL2]; rfl
theorem eL1b : (wL1 ++ ([.inl (8, binit 8)] : bWs))[402]? = some (.inl (8, binit 8)) := bisE_ok (by decide +kernel)
theorem lw_vok : fVok (vR 50 0 0) ∧ fVok (vR 7 0 0) ∧ fVok (vR 8 0 0) ∧ fVok (vR 40 0 0) ∧ fVok (vR 41 0 0) := ⟨fvb_ok (by decide +kernel), fvb_ok (by decide +kernel), fvb_ok (by decide +kernel), fvb_ok (by decide +kernel), fvb_ok (by decide +kernel)⟩
/-- from the loop's head to the end -/
theorem lw_tail {p : Program} {e : Env} {s : State} {m : MethodId} {below : List Frame} {meth : Method} {c : Code} {l : Launch} {b L : Nat} {xs : Nat → Int32} {ad : Nat → Nat} {D : va_G} {aC : Nat → ClassId} {H : Heap} {locs : List Loc} {ls : Array Slot} (hst : l.stackTraces = false) (hL : L ≤ 2048) (C0 : lw_At p s m meth c b L xs) (hP : fPre (sGm s.heap.size b ad D aC) s) (hM : bM (sGm s.heap.size b ad D aC) s.heap.size wL H) (hS : va_S (bA s.heap.size) s.heap H locs)
    (hl : lv_has ls 9 [(5, .int 0), (4, .ref (s.heap.size + 414)), (3, .ref (s.heap.size + 413)), (2, .ref (s.heap.size + 402)), (1, .ref (s.heap.size + 0)), (0, .ref b)]) : W p l e room_1 s m #[Value.ref b] below meth c H locs 415 5987 (lw_Z below #[Value.ref b] s) (F0 m 28 ls []) := by
  obtain ⟨hx, hb, hr, hml, hown, hts, hX, hbl, hlocks, hgv, hex⟩ := id C0
  have hfT : ∀ w ∈ fT, w.before #[Value.ref b] s = true := fun w hw => hts w (List.mem_filter.mp hw).1
  have hGw : fWf (sGm s.heap.size b ad D aC) := sWf
  have C : fCx (sGm s.heap.size b ad D aC) p l s m #[Value.ref b] meth c code RL 9 := ⟨hx, hb, hml, hown, hfT, hlocks, hst, hGw, hP⟩
  obtain ⟨r, ⟨n, hn⟩, hr1⟩ := law_loop (X := (L, xs)) hL 12000 rfl 512 0 0 415 5987 sS0 sMm none none none (by show L < 0 + 4 + 4 * 512; omega) (Nat.zero_le _) sSIM (Nat.le_of_ble_eq_true rfl) (Nat.le_of_ble_eq_true rfl) (Nat.le_of_ble_eq_true rfl)
  have W2 := fsound (R := room_1) (e := e) (below := below) (ret := some .boolean) (Z := ([], csLL, [], [], [], [])) (E := eL_law (L, xs)) (res := r) (MC := 603072) (MS := 7190634) C kL_law hr rfl ⟨Nat.le_refl _, Nat.le_refl _⟩ (fun _ => hex) (fun pc x nx a h => by cases h) (fun _ h => (List.not_mem_nil h).elim) (csL_all (L, xs) hst hGw) (fun _ h => (List.not_mem_nil h).elim) (fun _ h => (List.not_mem_nil h).elim) (fun _ h => (List.not_mem_nil h).elim) (fun _ h => (List.not_mem_nil h).elim) ⟨hX, hbl, Nat.not_le.mpr hbl⟩ n 28 [kR 50 0 0, kR 7 0 0, kR 8 0 0, kR 40 0 0, kR 41 0 0, kN 0, none, none, none] [] sMm 415 5987 H locs ls hn ⟨sMem hM, hS, ⟨hl.1, hl.2.1, by decide, fun i v hi => ?_⟩, fun i v hi => ?_, fun _ h => (List.not_mem_nil h).elim, Nat.le_of_ble_eq_true rfl, Nat.le_of_ble_eq_true rfl⟩
  · intro T hT X
    obtain ⟨t, a1, o, b1, b2, b3⟩ := W2 T hT X
    rcases b3 with ⟨⟨⟨v, hv, ho, -, -⟩, -⟩, L', ⟨hret, hWm, hsame⟩, hL'⟩ | ⟨q, ho, E, ce, L', ⟨⟨n', hn', -⟩, -⟩, -⟩
    · have hv2 : v = some (vI 1) := by
        have := hv.symm.trans hr1
        injection this
      subst hv2
      refine ⟨t, a1, o, b1, b2, ho, ?_⟩
      refine lw_closed (d0 := s.drawn) (Drawn.sameBut.refl s.drawn lw_cs) hret hWm ?_
      exact State.sameButNew.drop_fresh (L := []) (J := L') hsame (fun x hx => hL' x hx)
    · have := hn'.symm.trans hr1
      cases this
  · match i, hi with
    | 0, hi => cases hi; exact hl.2.2 (0, .ref b) (List.mem_of_getElem? (i := 5) rfl)
    | 1, hi => cases hi; exact hl.2.2 (1, .ref (s.heap.size + 0)) (List.mem_of_getElem? (i := 4) rfl)
    | 2, hi => cases hi; exact hl.2.2 (2, .ref (s.heap.size + 402)) (List.mem_of_getElem? (i := 3) rfl)
    | 3, hi => cases hi; exact hl.2.2 (3, .ref (s.heap.size + 413)) (List.mem_of_getElem? (i := 2) rfl)
    | 4, hi => cases hi; exact hl.2.2 (4, .ref (s.heap.size + 414)) (List.mem_of_getElem? (i := 1) rfl)
    | 5, hi => cases hi; exact hl.2.2 (5, .int 0) (List.mem_of_getElem? (i := 0) rfl)
    | 6, hi => cases hi
    | 7, hi => cases hi
    | 8, hi => cases hi
    | i + 9, hi => cases hi
  · match i, hi with
    | 0, hi => cases hi; exact lw_vok.1
    | 1, hi => cases hi; exact lw_vok.2.1
    | 2, hi => cases hi; exact lw_vok.2.2.1
    | 3, hi => cases hi; exact lw_vok.2.2.2.1
    | 4, hi => cases hi; exact lw_vok.2.2.2.2
    | 5, hi => cases hi; trivial
    | 6, hi => cases hi
    | 7, hi => cases hi
    | 8, hi => cases hi
    | i + 9, hi => cases hi
/-- from the entry, for every script of at most 2048 ints, the law comes to its end with true -/
theorem whole_start {p : Program} {e : Env} {s : State} {m : MethodId} {below : List Frame} {meth : Method} {c : Code} (l : Launch) (hflags : l.flags = flags0) {b L : Nat} {xs : Nat → Int32} (hL : L ≤ 2048) (C0 : lw_At p s m meth c b L xs) : W p l e room_1 s m #[Value.ref b] below meth c s.heap [] 0 0 (lw_Z below #[Value.ref b] s) (entryFrame m ([Value.ref b] : List Value).toArray 9) := by
  obtain ⟨hx, hb, hr, hml, hown, hts, hX, hbl, hlocks, hgv, hex⟩ := id C0
  have hst : l.stackTraces = false := by
    unfold Launch.stackTraces
    rw [hflags]
    decide +kernel
  obtain ⟨ad, D, aC, hP⟩ := n_pre (b := b) hts hgv
  have hfT : ∀ w ∈ fT, w.before #[Value.ref b] s = true := fun w hw => hts w (List.mem_filter.mp hw).1
  have hGw : fWf (sGm s.heap.size b ad D aC) := sWf
  have C : bCx (sGm s.heap.size b ad D aC) s.heap.size p l s m #[Value.ref b] meth c code RL 9 := ⟨hx, hb, hml, hown, hfT, hlocks, hP, Nat.le_refl _, Nat.le_refl _⟩
  have hM0 : bM (sGm s.heap.size b ad D aC) s.heap.size [] s.heap := bM_of rfl (fun i e h => by cases h)
  have cs7 : bCS (sGm s.heap.size b ad D aC) l RL code 9 room_1 163 (7, [], oiX7, riX7.cells, riX7.slots) := bCS_I (y := yX7_init) (cy := cX7_init) (n := 1) (rm := riX7) (bcX7 hst hGw) rfl (fT_mem 107 (by decide +kernel) rfl) (fT_mem 71 (by decide +kernel) rfl) (fT_mem 105 (by decide +kernel) rfl) (fT_mem 106 (by decide +kernel) rfl) (by unfold fhd; decide +kernel) ⟨Nat.le_of_ble_eq_true rfl, Nat.le_of_ble_eq_true rfl⟩ (fun _ => rfl)
  have cs8 : bCS (sGm s.heap.size b ad D aC) l RL code 9 room_1 166 (8, [], oiX8, riX8.cells, riX8.slots) := bCS_I (y := yX8_init) (cy := cX8_init) (n := 2) (rm := riX8) (bcX8 hst hGw) rfl bw_x8 (fT_mem 84 (by decide +kernel) rfl) (fT_mem 1559 (by decide +kernel) rfl) (fT_mem 1560 (by decide +kernel) rfl) (by unfold fhd; decide +kernel) ⟨Nat.le_of_ble_eq_true rfl, Nat.le_of_ble_eq_true rfl⟩ (fun _ => rfl)
  have hl := lv_entry ([.ref b]) (n := 9) (Nat.le_of_ble_eq_true rfl)
  rw [lg_entry_eq]
  generalize (lg_sl ([.ref b]) ++ List.replicate (9 - (lg_sl ([.ref b])).length) Slot.unset).toArray = ls at hl ⊢
  have hl : lv_has ls 9 [(0, .ref b)] := hl
  refine b_newc (a' := 7) C hM0 va_S.rf (by decide) (fT_mem 103 (by decide +kernel) rfl) (fT_mem 104 (by decide +kernel) rfl) (fT_mem 71 (by decide +kernel) rfl) (Nat.le_of_ble_eq_true rfl) (Nat.le_of_ble_eq_true rfl) d_law_0 (fun H hM hS => ?_)
  refine lv_dup hx hb d_law_3 rfl ?_
  refine cs7 p e s m #[Value.ref b] below meth c s.heap.size H _ _ _ _ 4 ls C d_law_4 hl.1 [bR 0] 0 _ rfl rfl (by decide) hM hS (Nat.le_of_ble_eq_true rfl) (Nat.le_of_ble_eq_true rfl) (fun H locs hM hS => ?_)
  have hM : bM (sGm s.heap.size b ad D aC) s.heap.size wL1 H := hM
  refine lv_astore_n (x := s.heap.size + 0) (lv' := [(1, .ref (s.heap.size + 0)), (0, .ref b)]) hx hb d_law_7 rfl hl (by decide) rfl (fun ls hl => ?_)
  refine b_newc (a' := 8) C hM hS (by decide) (fT_mem 1557 (by decide +kernel) rfl) (fT_mem 1558 (by decide +kernel) rfl) (fT_mem 84 (by decide +kernel) rfl) (Nat.le_of_ble_eq_true rfl) (Nat.le_of_ble_eq_true rfl) d_law_8 (fun H hM hS => ?_)
  rw [eL1]
  refine lv_dup hx hb d_law_11 rfl ?_
  refine cs8 p e s m #[Value.ref b] below meth c s.heap.size H _ _ _ _ 12 ls C d_law_12 hl.1 [bR 402] 402 _ (by rw [List.length_append, eL1]; rfl) eL1b (by decide) hM hS (Nat.le_of_ble_eq_true rfl) (Nat.le_of_ble_eq_true rfl) (fun H locs hM hS => ?_)
  have hM : bM (sGm s.heap.size b ad D aC) s.heap.size wL2 H := hM
  refine lv_astore_n (x := s.heap.size + 402) (lv' := [(2, .ref (s.heap.size + 402)), (1, .ref (s.heap.size + 0)), (0, .ref b)]) hx hb d_law_15 rfl hl (by decide) rfl (fun ls hl => ?_)
  refine lv_iconst (v := 1) hx hb d_law_16 (by decide) ?_
  refine b_newa (t := .long) (a' := 3) (N := 1) C hM hS (Or.inl (by decide)) rfl (by decide) (by decide) (by decide) (Nat.le_of_ble_eq_true rfl) (Nat.le_of_ble_eq_true rfl) d_law_17 (fun H hM hS => ?_)
  rw [eL2]
  refine lv_astore_n (x := s.heap.size + 413) (lv' := [(3, .ref (s.heap.size + 413)), (2, .ref (s.heap.size + 402)), (1, .ref (s.heap.size + 0)), (0, .ref b)]) hx hb d_law_19 rfl hl (by decide) rfl (fun ls hl => ?_)
  refine lv_iconst (v := 1) hx hb d_law_20 (by decide) ?_
  refine b_newa (t := .double) (a' := 4) (N := 1) C hM hS (Or.inl (by decide)) rfl (by decide) (by decide) (by decide) (Nat.le_of_ble_eq_true rfl) (Nat.le_of_ble_eq_true rfl) d_law_21 (fun H hM hS => ?_)
  rw [eL3]
  refine lv_astore (x := s.heap.size + 414) (lv' := [(4, .ref (s.heap.size + 414)), (3, .ref (s.heap.size + 413)), (2, .ref (s.heap.size + 402)), (1, .ref (s.heap.size + 0)), (0, .ref b)]) hx hb d_law_23 hl (by decide) rfl (fun ls hl => ?_)
  refine lv_iconst (v := 0) hx hb d_law_25 (by decide) ?_
  refine lv_istore (lv' := [(5, .int 0), (4, .ref (s.heap.size + 414)), (3, .ref (s.heap.size + 413)), (2, .ref (s.heap.size + 402)), (1, .ref (s.heap.size + 0)), (0, .ref b)]) hx hb d_law_26 hl (by decide) rfl (fun ls hl => ?_)
  exact lw_tail hst hL C0 hP hM hS hl
set_option maxHeartbeats 4000000 in
theorem lw_walk (l : Launch) (hflags : l.flags = flags0) (b : Addr) (xs : List Int32) : MetFree l x (headSpec (Jvm.Cond.code x code maxLocals ret :: tables_1) room_1) (lw_P b xs) (fun _ _ _ _ _ => True) lw_Q := by
  refine MetFree.of_bodyS (code := code) (maxLocals := maxLocals) (ret := ret) (by decide) ?_ ?_
  · intro args s m h hn
    obtain ⟨meth, c, h1, h2, h3, h4, h5, h6, -, -⟩ := Cond.code_spec hn (atoms_spec (ws := Jvm.Cond.code x code maxLocals ret :: tables_1) h _ List.mem_cons_self)
    exact ⟨meth, c, h1, h2, h3, h4, h5, h6⟩
  · intro p e s m args below meth c s₁ B hml0 hP _
    obtain ⟨rfl, hx, hbd, hgv⟩ := hP
    obtain ⟨scr, harrAt, hlist, hof, hsmall⟩ := hx
    obtain ⟨hcb, hkn, -, -⟩ := State.arrayAt?_spec harrAt
    have hown : s.vm.findClass R_law = some m.cls := findClass_of_methodNamed B.named
    have hts0 : ∀ c ∈ (Jvm.Cond.code x code maxLocals ret :: tables_1), c.before #[Value.ref b] s = true := atoms_spec (ws := Jvm.Cond.code x code maxLocals ret :: tables_1) B.pre
    have hts : ∀ w ∈ lw_tbl, w.before #[Value.ref b] s = true := k2_hts_sels lw_privs (fun w hw => hts0 w (List.mem_cons_of_mem _ hw)) lw_privs_ok
    have hml : c.maxLocals = 9 := B.maxLocals_eq (hts0 _ List.mem_cons_self)
    have X₀ : Stand p l e room_1 s m #[Value.ref b] below meth c s₁ [] 0 0 := Stand.of_body B
    have hh0 : s₁.heap = s.heap := by rw [B.state]; rfl
    have hsz : scr.slots.size = xs.length := by rw [← Array.length_toList, hlist, List.length_map]
    have hval : ∀ j : Nat, j < xs.length → scr.slots[j]? = some (.int (xs.getD j 0)) := fun j hj => by
      rw [← Array.getElem?_toList, hlist]
      simp [hj]
    have hbl : b < s.heap.size := (Array.getElem?_eq_some_iff.mp hcb).1
    have hX : va_X b xs.length (fun j => xs.getD j 0) s s.heap := ⟨scr, hcb, hof, hkn, hsz, hval⟩
    have K : W p l e room_1 s m #[Value.ref b] below meth c s₁.heap [] 0 0 (lw_Z below #[Value.ref b] s) (entryFrame m ([Value.ref b] : List Value).toArray 9) := by
      rw [hh0]
      exact whole_start l hflags hbd ⟨B.exec, B.bytes, B.returns, hml, hown, hts, hX, hbl, B.notSynchronized, hgv, fun x hx => by
        obtain ⟨meth9, c9, h1, h2, -, -, -, -, h7, -⟩ := Cond.code_spec B.named (hts0 _ List.mem_cons_self)
        cases Option.some.inj (h1.symm.trans B.method)
        cases Option.some.inj (h2.symm.trans (Stand.of_body B).code)
        rw [Array.isEmpty_iff.mp h7] at hx
        cases hx⟩
    obtain ⟨t, a1, o, b1, b2, b3⟩ := K s₁ rfl X₀
    exact ⟨t, o, a1, b1, b2, b3⟩
theorem lw_pre_spec {args : Array Value} {s : State} (h : (Jvm.Cond.and given_1 narrow_1).before args s = true) (hr : rest_1_c.before args s = true) : ∃ (b : Addr) (xs : List Int32), lw_P b xs args s := by
  have hs := flat_of_before _ h
  have hq := flat_of_before _ hr
  have hc : (Cond.count 1).before args s = true := hs _ (by decide +kernel)
  have harr : (Cond.arrayOf (.arg 0) .int).before args s = true := hs _ (by decide +kernel)
  have hle : (Cond.le (.length (.arg 0)) (.int 2048)).before args s = true := hs _ (by decide +kernel)
  have hlen : (Cond.isInt (.length (.arg 0))).before args s = true := hq _ (by decide +kernel)
  have hall : (Cond.all (.arg 0) (.isInt (.elem (.arg 0) (.index 0)))).before args s = true := hq _ (by decide +kernel)
  obtain ⟨b, xs, hb, hx⟩ := State.ints_of_pre rfl harr hlen hall
  have hsm : xs.length < 2 ^ 31 := hx.choose_spec.2.2.2
  have hev : (Term.length (.arg 0)).eval args s none [] s = some (.int xs.length.toInt32) := hx.length_eval hb
  have hv := Cond.le_ints hev (show (Term.int 2048).eval args s none [] s = some (.int 2048) from rfl)
  have hd : xs.length.toInt32 ≤ 2048 := by
    simpa [Cond.before, Cond.holds, hv] using hle
  have hN : xs.length ≤ 2048 := (Int32.ofNat_le_ofNat hsm (by decide)).mp (show Int32.ofNat xs.length ≤ Int32.ofNat 2048 from hd)
  exact ⟨b, xs, Cond.one_arg hc (show args[0]? = some (.ref b) from hb), hx, hN, h⟩
theorem lw_comes (l : Launch) (hflags : l.flags = flags0) : Comes l x (Jvm.Cond.code x code maxLocals ret :: tables_1) room_1 (fun tb e args s => Calls_1 tb e args s ∧ rest_1 tb e args s ∧ Pre_1 tb e args s)
    (fun _ _ args s o t => lw_Q args s o t) := by
  intro p e ha hc hk s m args below hf hfit hheap happ hpre
  obtain ⟨b, xs, hP⟩ := lw_pre_spec hpre.2.2 hpre.2.1
  obtain ⟨k, o, h1, h2, h3, hQ⟩ := lw_walk l hflags b xs p e ha hc hk s m args below hf ((Spec.applies_iff_loose hf).mp happ).1 hP trivial
  exact ⟨k, o, h1, h2, h3, hQ⟩
theorem lw_frame {s t : State} {o : Outcome} {args : Array Value} (h : State.butDraws s t lw_cs (fun t1 => Framed s o t1 [] 603072 7190634)) :
    State.butDraws s t [Jvm.Choice.named "NaN.bits"] (fun t1 => Framed s o t1 (fieldLocs frame_1_writes args s ++ arrayLocs frame_1_arrays args s ++ staticLocs frame_1_statics s) 603072 7190634) := h
theorem lw_limb (L : Cond) (hL : ∀ (args : Array Value) (s t : State), L.after args s (.returned (some (.int 1))) t = true) :
    ArmFor flags0 classFile x code maxLocals ret World_1 tables_1 room_1 Calls_1 rest_1 Pre_1
      (fun tb e a s o t => postC L tb e a s o t ∧ State.butDraws s t [Jvm.Choice.named "NaN.bits"] (fun t1 => Framed s o t1 (fieldLocs frame_1_writes a s ++ arrayLocs frame_1_arrays a s ++ staticLocs frame_1_statics s) 603072 7190634)) := by
  intro l hflags _ _ p e ha hc hk s m args below hf hfit hheap happ hpre
  obtain ⟨k, o, h1, h2, h3, rfl, hF⟩ := lw_comes l hflags p e ha hc hk s m args below hf hfit hheap happ hpre
  exact ⟨k, _, h1, h2, h3, hL args s _, lw_frame hF⟩
theorem i_vc : Claimed_1_1 ∧ Claimed_1_2 := ⟨lw_limb limb_1_1 (fun args s t => by simp [limb_1_1, Cond.after, Cond.holds, Cond.value]), lw_limb limb_1_2 (fun args s t => Cond.after_iff.mpr (by
  first | (rw [show limb_1_2 = Cond.eq .result (.int 1) from rfl, Cond.eq_ints (x := 1) (y := 1) rfl rfl]; simp; done) | (simp [limb_1_2, Cond.value, Term.eval]; done)))⟩
