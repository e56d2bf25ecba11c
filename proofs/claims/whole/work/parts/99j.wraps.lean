/-! THE WRAPPERS ARE WHAT THE MACHINE DOES -/
theorem fLH.put0 {G : fG} {ls ls' : Array Slot} {nL a : Nat} {L : List (Option fV)} {u : Value} (h : fLH G ls nL L) (h' : lv_has ls' nL ((a, u) :: (flv G L).filter (fun q => !(q.1 == a) && !(q.1 + 1 == a && q.2.category == 2)))) : fLH G ls' nL (fput1 L a none) := by
  refine ⟨h'.1, h'.2.1, by unfold fput1; rw [List.length_set, fdrop_len]; exact h.2.2.1, fun i x hx => ?_⟩
  unfold fput1 at hx
  rw [List.getElem?_set] at hx
  by_cases hi : a = i
  · subst hi
    rw [if_pos rfl] at hx
    split at hx <;> cases hx
  · rw [if_neg hi] at hx
    obtain ⟨h1, h2⟩ := fdrop_at hx
    refine h'.2.2 (i, ftv G x) (List.mem_cons_of_mem _ (List.mem_filter.mpr ⟨flv_mem.mpr ⟨x, h1, rfl⟩, ?_⟩))
    have e1 : (i == a) = false := by simpa using fun q => hi q.symm
    show (!(i == a) && !(i + 1 == a && (ftv G x).category == 2)) = true
    rw [e1, ftv_cat]
    by_cases e2 : i + 1 = a
    · have : ¬ fcat x = 2 := fun q => h2 ⟨e2, q⟩
      simp [this]
    · simp [e2]
/-- a row of the method's table beside a row of the flat machine's -/
abbrev wHH : Type := (Nat × Nat × Nat × Nat) × (Nat × Nat × Nat × Nat × Nat)
def wcl : List (Nat × Nat) := [(19, 0), (21, 1), (13, 2), (34, 3), (64, 4), (135, 5)]
def wclw : List (Jvm.Cond × Nat) := [(.classLink RL 19 "java/lang/IndexOutOfBoundsException", 779), (.classLink RL 21 "java/lang/IllegalArgumentException", 800), (.classLink RL 13 "java/lang/IllegalStateException", 497), (.classLink RL 34 "java/lang/UnsupportedOperationException", 822), (.classLink RL 64 "java/util/NoSuchElementException", 896), (.classLink RL 135 "java/lang/ArithmeticException", 1115)]
theorem wclw_ok : fTl wclw := by unfold fTl; decide +kernel
theorem wcl_ok : ∀ q ∈ wcl, Jvm.Cond.classLink RL q.1 (fExn q.2) ∈ fT := by
  intro q hq
  simp only [wcl, List.mem_cons, List.not_mem_nil, or_false] at hq
  rcases hq with rfl | rfl | rfl | rfl | rfl | rfl
  · exact fTl_at wclw_ok 0 rfl
  · exact fTl_at wclw_ok 1 rfl
  · exact fTl_at wclw_ok 2 rfl
  · exact fTl_at wclw_ok 3 rfl
  · exact fTl_at wclw_ok 4 rfl
  · exact fTl_at wclw_ok 5 rfl
def wcs : List (Jvm.Cond × Nat) := [(.castable "java/lang/IndexOutOfBoundsException" "java/lang/IndexOutOfBoundsException", 589), (.castable "java/lang/IllegalArgumentException" "java/lang/IllegalArgumentException", 661), (.castable "java/lang/IllegalStateException" "java/lang/IllegalStateException", 677), (.castable "java/lang/UnsupportedOperationException" "java/lang/UnsupportedOperationException", 693), (.castable "java/util/NoSuchElementException" "java/util/NoSuchElementException", 709), (.castable "java/lang/ArithmeticException" "java/lang/ArithmeticException", 1127)]
theorem wcs_ok : ∀ q ∈ wcs, lw_tbl[q.2]? = some q.1 ∧ fNwb q.1 = true := by decide +kernel
theorem wcast_ok : ∀ e, e < 6 → Jvm.Cond.castable (fExn e) (fExn e) ∈ fNw := by
  intro e he
  match e, he with
  | 0, _ => exact bnw_mem 589 (wcs_ok _ (List.mem_of_getElem? (i := 0) rfl)).1 rfl
  | 1, _ => exact bnw_mem 661 (wcs_ok _ (List.mem_of_getElem? (i := 1) rfl)).1 rfl
  | 2, _ => exact bnw_mem 677 (wcs_ok _ (List.mem_of_getElem? (i := 2) rfl)).1 rfl
  | 3, _ => exact bnw_mem 693 (wcs_ok _ (List.mem_of_getElem? (i := 3) rfl)).1 rfl
  | 4, _ => exact bnw_mem 709 (wcs_ok _ (List.mem_of_getElem? (i := 4) rfl)).1 rfl
  | 5, _ => exact bnw_mem 1127 (wcs_ok _ (List.mem_of_getElem? (i := 5) rfl)).1 rfl
  | e + 6, he => exact absurd he (by omega)
def whk (cc : ByteArray) (nL : Nat) (q : wHH) : Bool := decide (q.1.1 = q.2.1) && (decide (q.1.2.1 = q.2.2.1) && (decide (q.1.2.2.2 ≠ 0) && (decide (q.2.2.2.2.2 < nL) && (decide (q.2.2.2.1 < 6) && (decide ((q.1.2.2.2, q.2.2.2.1) ∈ wcl) && (match decode cc q.1.2.2.1 with
  | .ok (.astore x, 2) => decide (x = q.2.2.2.2.2) && decide (q.2.2.2.2.1 = q.1.2.2.1 + 2)
  | .ok (.astore_n x, 1) => decide ((x : Nat) = q.2.2.2.2.2) && decide (q.2.2.2.2.1 = q.1.2.2.1 + 1)
  | _ => false))))))
def wpk : List wHH → Bool
  | [] => true
  | q :: r => r.all (fun z => decide ((fExn z.2.2.2.1, fExn q.2.2.2.1) ∈ fNcl)) && wpk r
section WHAND
variable {p : Program} {l : Launch} {e : Env} {R : Room} {s : State} {m : MethodId} {args : Array Value} {below : List Frame} {meth : Method} {c : Code} {G : fG} {cc : ByteArray} {nL : Nat}
theorem wh_go (C : fCx G p l s m args meth c cc RL nL) {pc x nx a : Nat} : ∀ (HH pre : List wHH), c.exceptionTable.toList = tableOf (pre.map Prod.fst) ++ tableOf (HH.map Prod.fst) → HH.all (whk cc nL) = true → pre.all (whk cc nL) = true → wpk HH = true → (∀ q ∈ pre, ∀ z ∈ HH, (fExn z.2.2.2.1, fExn q.2.2.2.1) ∈ fNcl) → fhand (HH.map Prod.snd) pc x = some (nx, a) → fHN p l e R s m args below meth c G nL pc x nx a
  | [], _, _, _, _, _, _, h => by cases h
  | q :: r, pre, ht, h1, h2, h3, h4, h => by
    obtain ⟨hx, hb, hml, hown, hts, hlocks, hst, hG, hP⟩ := id C
    simp only [List.all_cons, Bool.and_eq_true] at h1
    simp only [wpk, Bool.and_eq_true] at h3
    simp only [List.map_cons] at h
    unfold fhand at h
    cases hc : (Nat.ble q.2.1 pc && (Nat.blt pc q.2.2.1 && Nat.beq q.2.2.2.1 x)) <;> rw [hc] at h
    · refine wh_go C r (pre ++ [q]) (by rw [ht]; simp [tableOf]) h1.2 (by rw [List.all_append]; simp [h2, h1.1]) h3.2 (fun z hz y hy => ?_) h
      rcases List.mem_append.mp hz with hz | hz
      · exact h4 z hz y (List.mem_cons_of_mem _ hy)
      · rw [List.mem_singleton.mp hz]
        exact of_decide_eq_true (List.all_eq_true.mp h3.1 y hy)
    · cases h
      simp only [Bool.and_eq_true] at hc
      have c1 := Nat.le_of_ble_eq_true hc.1
      have c2 : pc < q.2.2.1 := Nat.le_of_ble_eq_true hc.2.1
      have c3 := Nat.eq_of_beq_eq_true hc.2.2
      subst c3
      have hw := h1.1
      simp only [whk, Bool.and_eq_true, decide_eq_true_eq] at hw
      obtain ⟨w1, w2, w3, w4, w5, w6, w7⟩ := hw
      have hcl := hts _ (wcl_ok _ w6)
      intro H locs k1 n1 Q ls rest q0 ce L hce hcv hcf hL kk
      have hX : ∀ z ∈ fNcl, va_Nc z.1 z.2 s := hP.2.2.2.2.2.2.2.2.2.2.2.2.2.1
      refine vx_catch (own := RL) (name := fExn q.2.2.2.1) (E := fExn q.2.2.2.1) hown (tableOf (pre.map Prod.fst)) ⟨q.1.1, q.1.2.1, q.1.2.2.1, q.1.2.2.2⟩ (tableOf (r.map Prod.fst)) (by rw [ht]; rfl) (fun y hy => Or.inr ?_) (by
        show (decide (q.1.1 ≤ pc) && decide (pc < q.1.2.1)) = true
        rw [w1, w2, decide_eq_true c1, decide_eq_true c2]
        rfl) w3 hcl (va_Nw.use rfl (hP.2.2.2.2.1 _ (wcast_ok _ w5))) hce hcv hcf ?_
      · unfold tableOf at hy
        rw [List.mem_map] at hy
        obtain ⟨y1, hy1, rfl⟩ := hy
        rw [List.mem_map] at hy1
        obtain ⟨y2, hy2, rfl⟩ := hy1
        have g := List.all_eq_true.mp h2 y2 hy2
        simp only [whk, Bool.and_eq_true, decide_eq_true_eq] at g
        obtain ⟨-, -, g3, -, -, g6, -⟩ := g
        exact ⟨g3, _, hts _ (wcl_ok _ g6), hX _ (h4 y2 hy2 q List.mem_cons_self)⟩
      · show W p l e R s m args below meth c H locs k1 n1 Q (F0 m q.1.2.2.1 ls [.ref q0])
        split at w7
        · rename_i x' hd
          rw [Bool.and_eq_true, decide_eq_true_eq, decide_eq_true_eq] at w7
          refine lv_astore hx hb hd hL.has (by rw [w7.1]; exact w4) rfl (fun ls' hl' => ?_)
          have := kk ls' (by rw [← w7.1]; exact hL.put0 hl')
          rw [w7.2] at this
          exact this
        · rename_i x' hd
          rw [Bool.and_eq_true, decide_eq_true_eq, decide_eq_true_eq] at w7
          refine lv_astore_n hx hb hd w7.1 hL.has w4 rfl (fun ls' hl' => ?_)
          have := kk ls' (hL.put0 hl')
          rw [w7.2] at this
          exact this
        · cases w7
end WHAND
/-- A CONTRACT out of the flat machine's run (a method of the law with handlers) -/
theorem fcontractW {G : fG} {l : Launch} {y : MethodName} {cc : ByteArray} {nL : Nat} {ret : Option FieldType} {rm : Room} {E : fE} {t : fTb} {cs : List (Instr × Nat × Nat)} {S : fS} {HH : List wHH} (hl : l.stackTraces = false) (hG : fWf G) (hy : plainName y.cls = true) (hown : y.cls = RL) (hT : fokT cc nL ret ([], cs, [], [], [], []) t = true) (hE : E.2.1 = (rm.cells, rm.slots)) (hE1 : E.2.2 = (HH.map Prod.snd, none)) (hne : HH.map Prod.snd ≠ [])
    (hcs : ∀ x ∈ cs, ∃ f, E.1[x.2.1]? = some f ∧ fCS G l RL cc nL rm x.1 x.2.2 f.1 f.2.1 f.2.2) (hH : HH.all (whk cc nL) = true) (hp : wpk HH = true)
    (hS : ∀ a μ res, S a μ = some res → (fargs a).length ≤ nL ∧ fEnds (fun n => frun E t n 0 (fentry a nL) [] μ 0 0) res) : fCT G l y (Jvm.Cond.codeWith y cc nL ret (HH.map Prod.fst) :: fT) rm S := by
  intro a μ res hres hok
  obtain ⟨hlen, n, hn⟩ := hS a μ res hres
  refine vx_ofWH (cc := cc) (maxL := nL) (ret := ret) (hh := HH.map Prod.fst) hy rfl ?_
  intro p e s m args below meth c s₁ B hml hv
  obtain ⟨rfl, hP, hM⟩ := hv
  have hts : ∀ w ∈ fT, w.before (a.map (ftv G)).toArray s = true := fun w hw => atoms_spec (ws := Jvm.Cond.codeWith y cc nL ret (HH.map Prod.fst) :: fT) B.pre w (List.mem_cons_of_mem _ hw)
  have hown' : s.vm.findClass RL = some m.cls := by rw [← hown]; exact findClass_of_methodNamed B.named
  have htab := vx_table (x := y) B (atoms_spec (ws := Jvm.Cond.codeWith y cc nL ret (HH.map Prod.fst) :: fT) B.pre _ List.mem_cons_self)
  have C : fCx G p l s m (a.map (ftv G)).toArray meth c cc RL nL := ⟨B.exec, B.bytes, hml, hown', hts, B.notSynchronized, hl, hG, hP⟩
  rw [lg_entry_eq]
  refine fsound (R := (headSpec (Jvm.Cond.codeWith y cc nL ret (HH.map Prod.fst) :: fT) rm).room) (ret := ret) (Z := ([], cs, [], [], [], [])) (E := E) (res := res) (MC := rm.cells) (MS := rm.slots) C hT B.returns hE ⟨Nat.le_refl _, Nat.le_refl _⟩ (fun h0 => ?_) ?_ (fun _ h => (List.not_mem_nil h).elim) hcs (fun _ h => (List.not_mem_nil h).elim) (fun _ h => (List.not_mem_nil h).elim) (fun _ h => (List.not_mem_nil h).elim) (fun _ h => (List.not_mem_nil h).elim) ?_ n 0 (fentry a nL) [] μ 0 0 s.heap [] _ hn ⟨hM, va_S.rf, fentry_LH G a hlen, ?_, fun _ h => (List.not_mem_nil h).elim, Nat.zero_le _, Nat.zero_le _⟩
  · rw [hE1] at h0
    exact absurd h0 hne
  · intro pc x nx a' h
    rw [hE1] at h
    exact wh_go C HH [] (by rw [htab]; rfl) hH rfl hp (fun _ h => (List.not_mem_nil h).elim) h
  · rw [hE1]
    trivial
  · intro i v hi
    refine hok v ?_
    have hm := List.mem_of_getElem? hi
    unfold fentry at hm
    rcases List.mem_append.mp hm with hm | hm
    · exact fargs_mem hm
    · rw [List.mem_replicate] at hm
      cases hm.2
/-- a static call of a wrapper -/
theorem fCS_W {G : fG} {l : Launch} {own : String} {cc : ByteArray} {nL idx n b : Nat} {R rm : Room} {y : MethodName} {cy : ByteArray} {ret : Option FieldType} {hh : List (Nat × Nat × Nat × Nat)} {S : fS} (hc : fCT G l y (Jvm.Cond.codeWith y cy n ret hh :: fT) rm S) (hcode : Jvm.Cond.codeWith y cy n ret hh ∈ fT) (hini : Jvm.Cond.initialized y.cls ∈ fT) (hl : Jvm.Cond.methodLink own idx y ∈ fT) (hst : Jvm.Cond.static y ∈ fT) (hd : fhd y b)
    (hR : rm.frames + 1 ≤ R.frames ∧ 8 + (n + 11) + rm.locals ≤ R.locals) : fCS G l own cc nL R (.invokestatic idx) b S rm.cells rm.slots := by
  intro p e s m args below meth c H locs cells slots Q pc ls C hdg hls as rest μ res hlen hS hok hcat hM hSS hcl hsl kk kx
  obtain ⟨hx, hb, hml, hown, hts, hlocks, hst', hG, hP⟩ := C
  have hgood : GoodIn fT (Jvm.Cond.codeWith y cy n ret hh :: fT) := fun w hw => by
    have : w ∈ fT := (List.mem_cons.mp hw).elim (fun e => e ▸ hcode) id
    exact ⟨this, good_of_word (fT_good this)⟩
  have cw : vx_CSW R s args own idx y cy n ret hh (Jvm.Cond.codeWith y cy n ret hh :: fT) rm rm.cells rm.slots b := by
    refine ⟨⟨rfl, rfl, hR.1, hR.2, pay_in hts hgood, List.mem_cons_self⟩, hts _ hcode, hts _ hini, ⟨hd.1, hd.2.1⟩, fun sig h => ?_, hts _ hl, hts _ hst⟩
    have h2 := hd.2.2
    rw [h] at h2
    exact (Option.some.inj h2).symm
  refine fcs_run (res := res) (rest := rest) (a := (as.map (ftv G)).toArray) (vx_runSX (As := as.map (ftv G)) (Ts := fT) (own := own) (nL := nL) (n := b) ⟨hx, hb, hml, hown, hts⟩ (hc _ _ _ hS hok) cw ⟨fPc_blind, fun U hU hW => fPc_in hP hM hSS U hU hW⟩ rfl (by simpa using hlen) hls (by simp) (by rw [fcats_sum]; show 2 * 0 + _ ≤ 8; omega) hdg ⟨hcl, hsl⟩) hSS kk kx
def mlL : List (Jvm.Cond × Nat) := [(.methodLink RL 7 yX7_beginHull, 498), (.methodLink RL 15 yX7_addFrame, 801), (.methodLink RL 23 yX7_mirror, 808), (.methodLink RL 27 yX7_setCargo, 815), (.methodLink RL 31 yX7_launch, 823), (.methodLink RL 36 yX7_caulk, 830), (.methodLink RL 39 yX7_pump, 837), (.methodLink RL 42 yX7_stateOf, 844), (.methodLink RL 45 yX7_frameCount, 857), (.methodLink RL 48 yX7_widthOf, 864), (.methodLink RL 52 yX7_caulkingOf, 872), (.methodLink RL 55 yX7_waterIn, 881), (.methodLink RL 58 yX7_weightOf, 888), (.methodLink RL 61 yX7_draughtOf, 897), (.methodLink RL 66 yX7_draughtByHalving, 909), (.methodLink RL 69 yX7_heelOf, 920), (.methodLink RL 72 yX7_hullAtRank, 931), (.methodLink RL 75 yX7_isSymmetric, 944), (.methodLink RL 79 yX7_isReflectionOf, 959), (.methodLink RL 83 yX7_commonStretch, 966), (.methodLink RL 86 yX7_commonStretchByTrying, 979), (.methodLink RL 89 yX7_setTide, 994), (.methodLink RL 92 yX7_pass, 1001), (.methodLink RL 95 yX7_tideAfter, 1008), (.methodLink RL 98 yX7_hoursToLaunch, 1018), (.methodLink RL 101 yX7_hoursToLaunchByTides, 1032), (.methodLink RL 104 yX7_hoursToSinking, 1041), (.methodLink RL 107 yX7_setSlip, 1053), (.methodLink RL 110 yX7_slipLength, 1060), (.methodLink RL 113 yX7_addOrder, 1068), (.methodLink RL 116 yX7_deliver, 1075), (.methodLink RL 119 yX7_orderAt, 1082), (.methodLink RL 122 yX7_coinsFor, 1090), (.methodLink RL 125 yX7_hullsIn, 1099), (.methodLink RL 128 yX7_refusalReason, 1107), (.methodLink RL 131 yX7_meanWeight, 1129), (.methodLink RL 137 yX7_writeHull, 1139), (.methodLink RL 140 yX7_lineAt, 1424), (.methodLink RL 144 yX7_type, 1442), (.methodLink RL 148 yX7_execute, 1455), (.methodLink RL 151 yX7_errorPosition, 1524), (.methodLink RL 154 yX7_failedCommand, 1532), (.methodLink RL 157 yX7_undo, 1540), (.methodLink RL 160 yX7_restore, 1552)]
theorem mlL_ok : fTl mlL := by unfold fTl; decide +kernel
def rL_beginHull : Room := { frames := 9, cells := 1, slots := 6, locals := 219 }
def hhL_beginHull : List wHH := [((0, 8, 11, 13), (0, 8, 2, 12, 2))]
theorem kL_beginHull : fokT cL_beginHull 3 (some .int) ([], [(.invokevirtual 7, 0, 1)], [], [], [], []) tL_beginHull = true := by decide +kernel
theorem ctL_beginHull {G : fG} {l : Launch} (hl : l.stackTraces = false) (hG : fWf G) : fCT G l yL_beginHull (Jvm.Cond.codeWith yL_beginHull cL_beginHull 3 (some .int) (hhL_beginHull.map Prod.fst) :: fT) rL_beginHull sL_beginHull :=
  fcontractW (E := eL_beginHull) hl hG (by decide +kernel) rfl kL_beginHull rfl rfl (by decide) (fcs_cons rfl (fCS_V (ctX7_beginHull hl hG) (kd := 7) (by decide) rfl (fTl_at wlX7_beginHull_ok 0 rfl) (fTl_at wlX7_beginHull_ok 1 rfl) (fTl_at mlL_ok 0 rfl) (fTl_at wlX7_beginHull_ok 2 rfl) (fTl_at wlX7_beginHull_ok 3 rfl) hdX7_beginHull ⟨by decide, by decide⟩ fsemV_rc) fcs_nil) (by decide +kernel) (by decide +kernel) fsem_hS
def rL_addFrame : Room := { frames := 9, cells := 1, slots := 6, locals := 222 }
def hhL_addFrame : List wHH := [((0, 12, 15, 19), (0, 12, 0, 17, 5)), ((0, 12, 19, 21), (0, 12, 1, 21, 5)), ((0, 12, 23, 13), (0, 12, 2, 25, 5))]
theorem kL_addFrame : fokT cL_addFrame 6 (some .int) ([], [(.invokevirtual 15, 0, 4)], [], [], [], []) tL_addFrame = true := by decide +kernel
theorem ctL_addFrame {G : fG} {l : Launch} (hl : l.stackTraces = false) (hG : fWf G) : fCT G l yL_addFrame (Jvm.Cond.codeWith yL_addFrame cL_addFrame 6 (some .int) (hhL_addFrame.map Prod.fst) :: fT) rL_addFrame sL_addFrame :=
  fcontractW (E := eL_addFrame) hl hG (by decide +kernel) rfl kL_addFrame rfl rfl (by decide) (fcs_cons rfl (fCS_V (ctX7_addFrame hl hG) (kd := 7) (by decide) rfl (fTl_at wlX7_addFrame_ok 0 rfl) (fTl_at wlX7_addFrame_ok 1 rfl) (fTl_at mlL_ok 1 rfl) (fTl_at wlX7_addFrame_ok 2 rfl) (fTl_at wlX7_addFrame_ok 3 rfl) hdX7_addFrame ⟨by decide, by decide⟩ fsemV_rc) fcs_nil) (by decide +kernel) (by decide +kernel) fsem_hS
def rL_mirror : Room := { frames := 9, cells := 1, slots := 6, locals := 220 }
def hhL_mirror : List wHH := [((0, 9, 12, 19), (0, 9, 0, 13, 3)), ((0, 9, 15, 13), (0, 9, 2, 16, 3))]
theorem kL_mirror : fokT cL_mirror 4 (some .int) ([], [(.invokevirtual 23, 0, 2)], [], [], [], []) tL_mirror = true := by decide +kernel
theorem ctL_mirror {G : fG} {l : Launch} (hl : l.stackTraces = false) (hG : fWf G) : fCT G l yL_mirror (Jvm.Cond.codeWith yL_mirror cL_mirror 4 (some .int) (hhL_mirror.map Prod.fst) :: fT) rL_mirror sL_mirror :=
  fcontractW (E := eL_mirror) hl hG (by decide +kernel) rfl kL_mirror rfl rfl (by decide) (fcs_cons rfl (fCS_V (ctX7_mirror hl hG) (kd := 7) (by decide) rfl (fTl_at wlX7_mirror_ok 0 rfl) (fTl_at wlX7_mirror_ok 1 rfl) (fTl_at mlL_ok 2 rfl) (fTl_at wlX7_mirror_ok 2 rfl) (fTl_at wlX7_mirror_ok 3 rfl) hdX7_mirror ⟨by decide, by decide⟩ fsemV_rc) fcs_nil) (by decide +kernel) (by decide +kernel) fsem_hS
def rL_setCargo : Room := { frames := 9, cells := 1, slots := 6, locals := 221 }
def hhL_setCargo : List wHH := [((0, 10, 13, 19), (0, 10, 0, 15, 4)), ((0, 10, 17, 21), (0, 10, 1, 19, 4)), ((0, 10, 21, 13), (0, 10, 2, 23, 4))]
theorem kL_setCargo : fokT cL_setCargo 5 (some .int) ([], [(.invokevirtual 27, 0, 3)], [], [], [], []) tL_setCargo = true := by decide +kernel
theorem ctL_setCargo {G : fG} {l : Launch} (hl : l.stackTraces = false) (hG : fWf G) : fCT G l yL_setCargo (Jvm.Cond.codeWith yL_setCargo cL_setCargo 5 (some .int) (hhL_setCargo.map Prod.fst) :: fT) rL_setCargo sL_setCargo :=
  fcontractW (E := eL_setCargo) hl hG (by decide +kernel) rfl kL_setCargo rfl rfl (by decide) (fcs_cons rfl (fCS_V (ctX7_setCargo hl hG) (kd := 7) (by decide) rfl (fTl_at wlX7_setCargo_ok 0 rfl) (fTl_at wlX7_setCargo_ok 1 rfl) (fTl_at mlL_ok 3 rfl) (fTl_at wlX7_setCargo_ok 2 rfl) (fTl_at wlX7_setCargo_ok 3 rfl) hdX7_setCargo ⟨by decide, by decide⟩ fsemV_rc) fcs_nil) (by decide +kernel) (by decide +kernel) fsem_hS
def rL_launch : Room := { frames := 9, cells := 1, slots := 6, locals := 220 }
def hhL_launch : List wHH := [((0, 9, 12, 19), (0, 9, 0, 13, 3)), ((0, 9, 15, 13), (0, 9, 2, 16, 3)), ((0, 9, 18, 34), (0, 9, 3, 19, 3))]
theorem kL_launch : fokT cL_launch 4 (some .int) ([], [(.invokevirtual 31, 0, 2)], [], [], [], []) tL_launch = true := by decide +kernel
theorem ctL_launch {G : fG} {l : Launch} (hl : l.stackTraces = false) (hG : fWf G) : fCT G l yL_launch (Jvm.Cond.codeWith yL_launch cL_launch 4 (some .int) (hhL_launch.map Prod.fst) :: fT) rL_launch sL_launch :=
  fcontractW (E := eL_launch) hl hG (by decide +kernel) rfl kL_launch rfl rfl (by decide) (fcs_cons rfl (fCS_V (ctX7_launch hl hG) (kd := 7) (by decide) rfl (fTl_at wlX7_launch_ok 0 rfl) (fTl_at wlX7_launch_ok 1 rfl) (fTl_at mlL_ok 4 rfl) (fTl_at wlX7_launch_ok 2 rfl) (fTl_at wlX7_launch_ok 3 rfl) hdX7_launch ⟨by decide, by decide⟩ fsemV_rc) fcs_nil) (by decide +kernel) (by decide +kernel) fsem_hS
def rL_caulk : Room := { frames := 9, cells := 1, slots := 6, locals := 221 }
def hhL_caulk : List wHH := [((0, 10, 13, 19), (0, 10, 0, 15, 4)), ((0, 10, 17, 13), (0, 10, 2, 19, 4))]
theorem kL_caulk : fokT cL_caulk 5 (some .int) ([], [(.invokevirtual 36, 0, 3)], [], [], [], []) tL_caulk = true := by decide +kernel
theorem ctL_caulk {G : fG} {l : Launch} (hl : l.stackTraces = false) (hG : fWf G) : fCT G l yL_caulk (Jvm.Cond.codeWith yL_caulk cL_caulk 5 (some .int) (hhL_caulk.map Prod.fst) :: fT) rL_caulk sL_caulk :=
  fcontractW (E := eL_caulk) hl hG (by decide +kernel) rfl kL_caulk rfl rfl (by decide) (fcs_cons rfl (fCS_V (ctX7_caulk hl hG) (kd := 7) (by decide) rfl (fTl_at wlX7_caulk_ok 0 rfl) (fTl_at wlX7_caulk_ok 1 rfl) (fTl_at mlL_ok 5 rfl) (fTl_at wlX7_caulk_ok 2 rfl) (fTl_at wlX7_caulk_ok 3 rfl) hdX7_caulk ⟨by decide, by decide⟩ fsemV_rc) fcs_nil) (by decide +kernel) (by decide +kernel) fsem_hS
def rL_pump : Room := { frames := 9, cells := 1, slots := 6, locals := 221 }
def hhL_pump : List wHH := [((0, 10, 13, 19), (0, 10, 0, 15, 4)), ((0, 10, 17, 21), (0, 10, 1, 19, 4)), ((0, 10, 21, 13), (0, 10, 2, 23, 4))]
theorem kL_pump : fokT cL_pump 5 (some .int) ([], [(.invokevirtual 39, 0, 3)], [], [], [], []) tL_pump = true := by decide +kernel
theorem ctL_pump {G : fG} {l : Launch} (hl : l.stackTraces = false) (hG : fWf G) : fCT G l yL_pump (Jvm.Cond.codeWith yL_pump cL_pump 5 (some .int) (hhL_pump.map Prod.fst) :: fT) rL_pump sL_pump :=
  fcontractW (E := eL_pump) hl hG (by decide +kernel) rfl kL_pump rfl rfl (by decide) (fcs_cons rfl (fCS_V (ctX7_pump hl hG) (kd := 7) (by decide) rfl (fTl_at wlX7_pump_ok 0 rfl) (fTl_at wlX7_pump_ok 1 rfl) (fTl_at mlL_ok 6 rfl) (fTl_at wlX7_pump_ok 2 rfl) (fTl_at wlX7_pump_ok 3 rfl) hdX7_pump ⟨by decide, by decide⟩ fsemV_rc) fcs_nil) (by decide +kernel) (by decide +kernel) fsem_hS
def rL_stateOf : Room := { frames := 8, cells := 1, slots := 6, locals := 132 }
def hhL_stateOf : List wHH := [((0, 9, 12, 19), (0, 9, 0, 13, 3))]
theorem kL_stateOf : fokT cL_stateOf 4 (some .int) ([], [(.invokevirtual 42, 0, 2)], [], [], [], []) tL_stateOf = true := by decide +kernel
theorem ctL_stateOf {G : fG} {l : Launch} (hl : l.stackTraces = false) (hG : fWf G) : fCT G l yL_stateOf (Jvm.Cond.codeWith yL_stateOf cL_stateOf 4 (some .int) (hhL_stateOf.map Prod.fst) :: fT) rL_stateOf sL_stateOf :=
  fcontractW (E := eL_stateOf) hl hG (by decide +kernel) rfl kL_stateOf rfl rfl (by decide) (fcs_cons rfl (fCS_V (ctX7_stateOf hl hG) (kd := 7) (by decide) rfl (fTl_at wlX7_stateOf_ok 0 rfl) (fTl_at wlX7_stateOf_ok 1 rfl) (fTl_at mlL_ok 7 rfl) (fTl_at wlX7_stateOf_ok 2 rfl) (fTl_at wlX7_stateOf_ok 3 rfl) hdX7_stateOf ⟨by decide, by decide⟩ fsemV_rc) fcs_nil) (by decide +kernel) (by decide +kernel) fsem_hS
def rL_frameCount : Room := { frames := 8, cells := 1, slots := 6, locals := 132 }
def hhL_frameCount : List wHH := [((0, 9, 12, 19), (0, 9, 0, 13, 3))]
theorem kL_frameCount : fokT cL_frameCount 4 (some .int) ([], [(.invokevirtual 45, 0, 2)], [], [], [], []) tL_frameCount = true := by decide +kernel
theorem ctL_frameCount {G : fG} {l : Launch} (hl : l.stackTraces = false) (hG : fWf G) : fCT G l yL_frameCount (Jvm.Cond.codeWith yL_frameCount cL_frameCount 4 (some .int) (hhL_frameCount.map Prod.fst) :: fT) rL_frameCount sL_frameCount :=
  fcontractW (E := eL_frameCount) hl hG (by decide +kernel) rfl kL_frameCount rfl rfl (by decide) (fcs_cons rfl (fCS_V (ctX7_frameCount hl hG) (kd := 7) (by decide) rfl (fTl_at wlX7_frameCount_ok 0 rfl) (fTl_at wlX7_frameCount_ok 1 rfl) (fTl_at mlL_ok 8 rfl) (fTl_at wlX7_frameCount_ok 2 rfl) (fTl_at wlX7_frameCount_ok 3 rfl) hdX7_frameCount ⟨by decide, by decide⟩ fsemV_rc) fcs_nil) (by decide +kernel) (by decide +kernel) fsem_hS
def rL_widthOf : Room := { frames := 8, cells := 2, slots := 12, locals := 135 }
def hhL_widthOf : List wHH := [((0, 12, 15, 19), (0, 12, 0, 17, 5))]
theorem kL_widthOf : fokT cL_widthOf 6 (some .int) ([], [(.invokevirtual 48, 0, 4)], [], [], [], []) tL_widthOf = true := by decide +kernel
theorem ctL_widthOf {G : fG} {l : Launch} (hl : l.stackTraces = false) (hG : fWf G) : fCT G l yL_widthOf (Jvm.Cond.codeWith yL_widthOf cL_widthOf 6 (some .int) (hhL_widthOf.map Prod.fst) :: fT) rL_widthOf sL_widthOf :=
  fcontractW (E := eL_widthOf) hl hG (by decide +kernel) rfl kL_widthOf rfl rfl (by decide) (fcs_cons rfl (fCS_V (ctX7_widthOf hl hG) (kd := 7) (by decide) rfl (fTl_at wlX7_widthOf_ok 0 rfl) (fTl_at wlX7_widthOf_ok 1 rfl) (fTl_at mlL_ok 9 rfl) (fTl_at wlX7_widthOf_ok 2 rfl) (fTl_at wlX7_widthOf_ok 3 rfl) hdX7_widthOf ⟨by decide, by decide⟩ fsemV_rc) fcs_nil) (by decide +kernel) (by decide +kernel) fsem_hS
def rL_caulkingOf : Room := { frames := 8, cells := 2, slots := 12, locals := 134 }
def hhL_caulkingOf : List wHH := [((0, 10, 13, 19), (0, 10, 0, 15, 4))]
theorem kL_caulkingOf : fokT cL_caulkingOf 5 (some .int) ([], [(.invokevirtual 52, 0, 3)], [], [], [], []) tL_caulkingOf = true := by decide +kernel
theorem ctL_caulkingOf {G : fG} {l : Launch} (hl : l.stackTraces = false) (hG : fWf G) : fCT G l yL_caulkingOf (Jvm.Cond.codeWith yL_caulkingOf cL_caulkingOf 5 (some .int) (hhL_caulkingOf.map Prod.fst) :: fT) rL_caulkingOf sL_caulkingOf :=
  fcontractW (E := eL_caulkingOf) hl hG (by decide +kernel) rfl kL_caulkingOf rfl rfl (by decide) (fcs_cons rfl (fCS_V (ctX7_caulkingOf hl hG) (kd := 7) (by decide) rfl (fTl_at wlX7_caulkingOf_ok 0 rfl) (fTl_at wlX7_caulkingOf_ok 1 rfl) (fTl_at mlL_ok 10 rfl) (fTl_at wlX7_caulkingOf_ok 2 rfl) (fTl_at wlX7_caulkingOf_ok 3 rfl) hdX7_caulkingOf ⟨by decide, by decide⟩ fsemV_rc) fcs_nil) (by decide +kernel) (by decide +kernel) fsem_hS
def rL_waterIn : Room := { frames := 8, cells := 1, slots := 6, locals := 132 }
def hhL_waterIn : List wHH := [((0, 9, 12, 19), (0, 9, 0, 13, 3))]
theorem kL_waterIn : fokT cL_waterIn 4 (some .int) ([], [(.invokevirtual 55, 0, 2)], [], [], [], []) tL_waterIn = true := by decide +kernel
theorem ctL_waterIn {G : fG} {l : Launch} (hl : l.stackTraces = false) (hG : fWf G) : fCT G l yL_waterIn (Jvm.Cond.codeWith yL_waterIn cL_waterIn 4 (some .int) (hhL_waterIn.map Prod.fst) :: fT) rL_waterIn sL_waterIn :=
  fcontractW (E := eL_waterIn) hl hG (by decide +kernel) rfl kL_waterIn rfl rfl (by decide) (fcs_cons rfl (fCS_V (ctX7_waterIn hl hG) (kd := 7) (by decide) rfl (fTl_at wlX7_waterIn_ok 0 rfl) (fTl_at wlX7_waterIn_ok 1 rfl) (fTl_at mlL_ok 11 rfl) (fTl_at wlX7_waterIn_ok 2 rfl) (fTl_at wlX7_waterIn_ok 3 rfl) hdX7_waterIn ⟨by decide, by decide⟩ fsemV_rc) fcs_nil) (by decide +kernel) (by decide +kernel) fsem_hS
def rL_weightOf : Room := { frames := 8, cells := 1, slots := 6, locals := 132 }
def hhL_weightOf : List wHH := [((0, 9, 12, 19), (0, 9, 0, 13, 3))]
theorem kL_weightOf : fokT cL_weightOf 4 (some .int) ([], [(.invokevirtual 58, 0, 2)], [], [], [], []) tL_weightOf = true := by decide +kernel
theorem ctL_weightOf {G : fG} {l : Launch} (hl : l.stackTraces = false) (hG : fWf G) : fCT G l yL_weightOf (Jvm.Cond.codeWith yL_weightOf cL_weightOf 4 (some .int) (hhL_weightOf.map Prod.fst) :: fT) rL_weightOf sL_weightOf :=
  fcontractW (E := eL_weightOf) hl hG (by decide +kernel) rfl kL_weightOf rfl rfl (by decide) (fcs_cons rfl (fCS_V (ctX7_weightOf hl hG) (kd := 7) (by decide) rfl (fTl_at wlX7_weightOf_ok 0 rfl) (fTl_at wlX7_weightOf_ok 1 rfl) (fTl_at mlL_ok 12 rfl) (fTl_at wlX7_weightOf_ok 2 rfl) (fTl_at wlX7_weightOf_ok 3 rfl) hdX7_weightOf ⟨by decide, by decide⟩ fsemV_rc) fcs_nil) (by decide +kernel) (by decide +kernel) fsem_hS
def rL_draughtOf : Room := { frames := 8, cells := 2, slots := 12, locals := 132 }
def hhL_draughtOf : List wHH := [((0, 9, 12, 19), (0, 9, 0, 13, 3)), ((0, 9, 15, 64), (0, 9, 4, 16, 3))]
theorem kL_draughtOf : fokT cL_draughtOf 4 (some .int) ([], [(.invokevirtual 61, 0, 2)], [], [], [], []) tL_draughtOf = true := by decide +kernel
theorem ctL_draughtOf {G : fG} {l : Launch} (hl : l.stackTraces = false) (hG : fWf G) : fCT G l yL_draughtOf (Jvm.Cond.codeWith yL_draughtOf cL_draughtOf 4 (some .int) (hhL_draughtOf.map Prod.fst) :: fT) rL_draughtOf sL_draughtOf :=
  fcontractW (E := eL_draughtOf) hl hG (by decide +kernel) rfl kL_draughtOf rfl rfl (by decide) (fcs_cons rfl (fCS_V (ctX7_draughtOf hl hG) (kd := 7) (by decide) rfl (fTl_at wlX7_draughtOf_ok 0 rfl) (fTl_at wlX7_draughtOf_ok 1 rfl) (fTl_at mlL_ok 13 rfl) (fTl_at wlX7_draughtOf_ok 2 rfl) (fTl_at wlX7_draughtOf_ok 3 rfl) hdX7_draughtOf ⟨by decide, by decide⟩ fsemV_rc) fcs_nil) (by decide +kernel) (by decide +kernel) fsem_hS
def rL_draughtByHalving : Room := { frames := 8, cells := 2, slots := 12, locals := 132 }
def hhL_draughtByHalving : List wHH := [((0, 9, 12, 19), (0, 9, 0, 13, 3)), ((0, 9, 15, 64), (0, 9, 4, 16, 3))]
theorem kL_draughtByHalving : fokT cL_draughtByHalving 4 (some .int) ([], [(.invokevirtual 66, 0, 2)], [], [], [], []) tL_draughtByHalving = true := by decide +kernel
theorem ctL_draughtByHalving {G : fG} {l : Launch} (hl : l.stackTraces = false) (hG : fWf G) : fCT G l yL_draughtByHalving (Jvm.Cond.codeWith yL_draughtByHalving cL_draughtByHalving 4 (some .int) (hhL_draughtByHalving.map Prod.fst) :: fT) rL_draughtByHalving sL_draughtByHalving :=
  fcontractW (E := eL_draughtByHalving) hl hG (by decide +kernel) rfl kL_draughtByHalving rfl rfl (by decide) (fcs_cons rfl (fCS_V (ctX7_draughtByHalving hl hG) (kd := 7) (by decide) rfl (fTl_at wlX7_draughtByHalving_ok 0 rfl) (fTl_at wlX7_draughtByHalving_ok 1 rfl) (fTl_at mlL_ok 14 rfl) (fTl_at wlX7_draughtByHalving_ok 2 rfl) (fTl_at wlX7_draughtByHalving_ok 3 rfl) hdX7_draughtByHalving ⟨by decide, by decide⟩ fsemV_rc) fcs_nil) (by decide +kernel) (by decide +kernel) fsem_hS
def rL_heelOf : Room := { frames := 8, cells := 1, slots := 6, locals := 132 }
def hhL_heelOf : List wHH := [((0, 9, 12, 19), (0, 9, 0, 13, 3))]
theorem kL_heelOf : fokT cL_heelOf 4 (some .int) ([], [(.invokevirtual 69, 0, 2)], [], [], [], []) tL_heelOf = true := by decide +kernel
theorem ctL_heelOf {G : fG} {l : Launch} (hl : l.stackTraces = false) (hG : fWf G) : fCT G l yL_heelOf (Jvm.Cond.codeWith yL_heelOf cL_heelOf 4 (some .int) (hhL_heelOf.map Prod.fst) :: fT) rL_heelOf sL_heelOf :=
  fcontractW (E := eL_heelOf) hl hG (by decide +kernel) rfl kL_heelOf rfl rfl (by decide) (fcs_cons rfl (fCS_V (ctX7_heelOf hl hG) (kd := 7) (by decide) rfl (fTl_at wlX7_heelOf_ok 0 rfl) (fTl_at wlX7_heelOf_ok 1 rfl) (fTl_at mlL_ok 15 rfl) (fTl_at wlX7_heelOf_ok 2 rfl) (fTl_at wlX7_heelOf_ok 3 rfl) hdX7_heelOf ⟨by decide, by decide⟩ fsemV_rc) fcs_nil) (by decide +kernel) (by decide +kernel) fsem_hS
def rL_hullAtRank : Room := { frames := 7, cells := 1, slots := 6, locals := 112 }
def hhL_hullAtRank : List wHH := [((0, 9, 12, 64), (0, 9, 4, 13, 3))]
theorem kL_hullAtRank : fokT cL_hullAtRank 4 (some .int) ([], [(.invokevirtual 72, 0, 2)], [], [], [], []) tL_hullAtRank = true := by decide +kernel
theorem ctL_hullAtRank {G : fG} {l : Launch} (hl : l.stackTraces = false) (hG : fWf G) : fCT G l yL_hullAtRank (Jvm.Cond.codeWith yL_hullAtRank cL_hullAtRank 4 (some .int) (hhL_hullAtRank.map Prod.fst) :: fT) rL_hullAtRank sL_hullAtRank :=
  fcontractW (E := eL_hullAtRank) hl hG (by decide +kernel) rfl kL_hullAtRank rfl rfl (by decide) (fcs_cons rfl (fCS_V (ctX7_hullAtRank hl hG) (kd := 7) (by decide) rfl (fTl_at wlX7_hullAtRank_ok 0 rfl) (fTl_at wlX7_hullAtRank_ok 1 rfl) (fTl_at mlL_ok 16 rfl) (fTl_at wlX7_hullAtRank_ok 2 rfl) (fTl_at wlX7_hullAtRank_ok 3 rfl) hdX7_hullAtRank ⟨by decide, by decide⟩ fsemV_rc) fcs_nil) (by decide +kernel) (by decide +kernel) fsem_hS
def rL_isSymmetric : Room := { frames := 8, cells := 1, slots := 6, locals := 133 }
def hhL_isSymmetric : List wHH := [((0, 16, 19, 19), (0, 16, 0, 20, 3))]
theorem kL_isSymmetric : fokT cL_isSymmetric 4 (some .int) ([], [(.invokevirtual 75, 0, 2)], [], [], [], []) tL_isSymmetric = true := by decide +kernel
theorem ctL_isSymmetric {G : fG} {l : Launch} (hl : l.stackTraces = false) (hG : fWf G) : fCT G l yL_isSymmetric (Jvm.Cond.codeWith yL_isSymmetric cL_isSymmetric 4 (some .int) (hhL_isSymmetric.map Prod.fst) :: fT) rL_isSymmetric sL_isSymmetric :=
  fcontractW (E := eL_isSymmetric) hl hG (by decide +kernel) rfl kL_isSymmetric rfl rfl (by decide) (fcs_cons rfl (fCS_V (ctX7_isSymmetric hl hG) (kd := 7) (by decide) rfl (fTl_at wlX7_isSymmetric_ok 0 rfl) (fTl_at wlX7_isSymmetric_ok 1 rfl) (fTl_at mlL_ok 17 rfl) (fTl_at wlX7_isSymmetric_ok 2 rfl) (fTl_at wlX7_isSymmetric_ok 3 rfl) hdX7_isSymmetric ⟨by decide, by decide⟩ fsemV_rc) fcs_nil) (by decide +kernel) (by decide +kernel) fsem_hS
def rL_isReflectionOf : Room := { frames := 8, cells := 2, slots := 12, locals := 133 }
def hhL_isReflectionOf : List wHH := [((0, 17, 20, 19), (0, 17, 0, 22, 4))]
theorem kL_isReflectionOf : fokT cL_isReflectionOf 5 (some .int) ([], [(.invokevirtual 79, 0, 3)], [], [], [], []) tL_isReflectionOf = true := by decide +kernel
theorem ctL_isReflectionOf {G : fG} {l : Launch} (hl : l.stackTraces = false) (hG : fWf G) : fCT G l yL_isReflectionOf (Jvm.Cond.codeWith yL_isReflectionOf cL_isReflectionOf 5 (some .int) (hhL_isReflectionOf.map Prod.fst) :: fT) rL_isReflectionOf sL_isReflectionOf :=
  fcontractW (E := eL_isReflectionOf) hl hG (by decide +kernel) rfl kL_isReflectionOf rfl rfl (by decide) (fcs_cons rfl (fCS_V (ctX7_isReflectionOf hl hG) (kd := 7) (by decide) rfl (fTl_at wlX7_isReflectionOf_ok 0 rfl) (fTl_at wlX7_isReflectionOf_ok 1 rfl) (fTl_at mlL_ok 18 rfl) (fTl_at wlX7_isReflectionOf_ok 2 rfl) (fTl_at wlX7_isReflectionOf_ok 3 rfl) hdX7_isReflectionOf ⟨by decide, by decide⟩ fsemV_rc) fcs_nil) (by decide +kernel) (by decide +kernel) fsem_hS
def rL_commonStretch : Room := { frames := 8, cells := 2, slots := 12, locals := 133 }
def hhL_commonStretch : List wHH := [((0, 10, 13, 19), (0, 10, 0, 15, 4))]
theorem kL_commonStretch : fokT cL_commonStretch 5 (some .int) ([], [(.invokevirtual 83, 0, 3)], [], [], [], []) tL_commonStretch = true := by decide +kernel
theorem ctL_commonStretch {G : fG} {l : Launch} (hl : l.stackTraces = false) (hG : fWf G) : fCT G l yL_commonStretch (Jvm.Cond.codeWith yL_commonStretch cL_commonStretch 5 (some .int) (hhL_commonStretch.map Prod.fst) :: fT) rL_commonStretch sL_commonStretch :=
  fcontractW (E := eL_commonStretch) hl hG (by decide +kernel) rfl kL_commonStretch rfl rfl (by decide) (fcs_cons rfl (fCS_V (ctX7_commonStretch hl hG) (kd := 7) (by decide) rfl (fTl_at wlX7_commonStretch_ok 0 rfl) (fTl_at wlX7_commonStretch_ok 1 rfl) (fTl_at mlL_ok 19 rfl) (fTl_at wlX7_commonStretch_ok 2 rfl) (fTl_at wlX7_commonStretch_ok 3 rfl) hdX7_commonStretch ⟨by decide, by decide⟩ fsemV_rc) fcs_nil) (by decide +kernel) (by decide +kernel) fsem_hS
def rL_commonStretchByTrying : Room := { frames := 8, cells := 2, slots := 12, locals := 133 }
def hhL_commonStretchByTrying : List wHH := [((0, 10, 13, 19), (0, 10, 0, 15, 4))]
theorem kL_commonStretchByTrying : fokT cL_commonStretchByTrying 5 (some .int) ([], [(.invokevirtual 86, 0, 3)], [], [], [], []) tL_commonStretchByTrying = true := by decide +kernel
theorem ctL_commonStretchByTrying {G : fG} {l : Launch} (hl : l.stackTraces = false) (hG : fWf G) : fCT G l yL_commonStretchByTrying (Jvm.Cond.codeWith yL_commonStretchByTrying cL_commonStretchByTrying 5 (some .int) (hhL_commonStretchByTrying.map Prod.fst) :: fT) rL_commonStretchByTrying sL_commonStretchByTrying :=
  fcontractW (E := eL_commonStretchByTrying) hl hG (by decide +kernel) rfl kL_commonStretchByTrying rfl rfl (by decide) (fcs_cons rfl (fCS_V (ctX7_commonStretchByTrying hl hG) (kd := 7) (by decide) rfl (fTl_at wlX7_commonStretchByTrying_ok 0 rfl) (fTl_at wlX7_commonStretchByTrying_ok 1 rfl) (fTl_at mlL_ok 20 rfl) (fTl_at wlX7_commonStretchByTrying_ok 2 rfl) (fTl_at wlX7_commonStretchByTrying_ok 3 rfl) hdX7_commonStretchByTrying ⟨by decide, by decide⟩ fsemV_rc) fcs_nil) (by decide +kernel) (by decide +kernel) fsem_hS
def rL_setTide : Room := { frames := 9, cells := 1, slots := 6, locals := 221 }
def hhL_setTide : List wHH := [((0, 10, 13, 21), (0, 10, 1, 15, 4))]
theorem kL_setTide : fokT cL_setTide 5 (some .int) ([], [(.invokevirtual 89, 0, 3)], [], [], [], []) tL_setTide = true := by decide +kernel
theorem ctL_setTide {G : fG} {l : Launch} (hl : l.stackTraces = false) (hG : fWf G) : fCT G l yL_setTide (Jvm.Cond.codeWith yL_setTide cL_setTide 5 (some .int) (hhL_setTide.map Prod.fst) :: fT) rL_setTide sL_setTide :=
  fcontractW (E := eL_setTide) hl hG (by decide +kernel) rfl kL_setTide rfl rfl (by decide) (fcs_cons rfl (fCS_V (ctX7_setTide hl hG) (kd := 7) (by decide) rfl (fTl_at wlX7_setTide_ok 0 rfl) (fTl_at wlX7_setTide_ok 1 rfl) (fTl_at mlL_ok 21 rfl) (fTl_at wlX7_setTide_ok 2 rfl) (fTl_at wlX7_setTide_ok 3 rfl) hdX7_setTide ⟨by decide, by decide⟩ fsemV_rc) fcs_nil) (by decide +kernel) (by decide +kernel) fsem_hS
def rL_pass : Room := { frames := 9, cells := 1, slots := 6, locals := 220 }
def hhL_pass : List wHH := [((0, 9, 12, 21), (0, 9, 1, 13, 3))]
theorem kL_pass : fokT cL_pass 4 (some .int) ([], [(.invokevirtual 92, 0, 2)], [], [], [], []) tL_pass = true := by decide +kernel
theorem ctL_pass {G : fG} {l : Launch} (hl : l.stackTraces = false) (hG : fWf G) : fCT G l yL_pass (Jvm.Cond.codeWith yL_pass cL_pass 4 (some .int) (hhL_pass.map Prod.fst) :: fT) rL_pass sL_pass :=
  fcontractW (E := eL_pass) hl hG (by decide +kernel) rfl kL_pass rfl rfl (by decide) (fcs_cons rfl (fCS_V (ctX7_pass hl hG) (kd := 7) (by decide) rfl (fTl_at wlX7_pass_ok 0 rfl) (fTl_at wlX7_pass_ok 1 rfl) (fTl_at mlL_ok 22 rfl) (fTl_at wlX7_pass_ok 2 rfl) (fTl_at wlX7_pass_ok 3 rfl) hdX7_pass ⟨by decide, by decide⟩ fsemV_rc) fcs_nil) (by decide +kernel) (by decide +kernel) fsem_hS
def rL_tideAfter : Room := { frames := 7, cells := 1, slots := 6, locals := 111 }
def hhL_tideAfter : List wHH := [((0, 9, 12, 21), (0, 9, 1, 13, 3))]
theorem kL_tideAfter : fokT cL_tideAfter 4 (some .int) ([], [(.invokevirtual 95, 0, 2)], [], [], [], []) tL_tideAfter = true := by decide +kernel
theorem ctL_tideAfter {G : fG} {l : Launch} (hl : l.stackTraces = false) (hG : fWf G) : fCT G l yL_tideAfter (Jvm.Cond.codeWith yL_tideAfter cL_tideAfter 4 (some .int) (hhL_tideAfter.map Prod.fst) :: fT) rL_tideAfter sL_tideAfter :=
  fcontractW (E := eL_tideAfter) hl hG (by decide +kernel) rfl kL_tideAfter rfl rfl (by decide) (fcs_cons rfl (fCS_V (ctX7_tideAfter hl hG) (kd := 7) (by decide) rfl (fTl_at wlX7_tideAfter_ok 0 rfl) (fTl_at wlX7_tideAfter_ok 1 rfl) (fTl_at mlL_ok 23 rfl) (fTl_at wlX7_tideAfter_ok 2 rfl) (fTl_at wlX7_tideAfter_ok 3 rfl) hdX7_tideAfter ⟨by decide, by decide⟩ fsemV_rc) fcs_nil) (by decide +kernel) (by decide +kernel) fsem_hS
def rL_hoursToLaunch : Room := { frames := 9, cells := 3, slots := 18, locals := 156 }
def hhL_hoursToLaunch : List wHH := [((0, 9, 12, 19), (0, 9, 0, 13, 3)), ((0, 9, 15, 13), (0, 9, 2, 16, 3)), ((0, 9, 18, 64), (0, 9, 4, 19, 3))]
theorem kL_hoursToLaunch : fokT cL_hoursToLaunch 4 (some .int) ([], [(.invokevirtual 98, 0, 2)], [], [], [], []) tL_hoursToLaunch = true := by decide +kernel
theorem ctL_hoursToLaunch {G : fG} {l : Launch} (hl : l.stackTraces = false) (hG : fWf G) : fCT G l yL_hoursToLaunch (Jvm.Cond.codeWith yL_hoursToLaunch cL_hoursToLaunch 4 (some .int) (hhL_hoursToLaunch.map Prod.fst) :: fT) rL_hoursToLaunch sL_hoursToLaunch :=
  fcontractW (E := eL_hoursToLaunch) hl hG (by decide +kernel) rfl kL_hoursToLaunch rfl rfl (by decide) (fcs_cons rfl (fCS_V (ctX7_hoursToLaunch hl hG) (kd := 7) (by decide) rfl (fTl_at wlX7_hoursToLaunch_ok 0 rfl) (fTl_at wlX7_hoursToLaunch_ok 1 rfl) (fTl_at mlL_ok 24 rfl) (fTl_at wlX7_hoursToLaunch_ok 2 rfl) (fTl_at wlX7_hoursToLaunch_ok 3 rfl) hdX7_hoursToLaunch ⟨by decide, by decide⟩ fsemV_rc) fcs_nil) (by decide +kernel) (by decide +kernel) fsem_hS
def rL_hoursToLaunchByTides : Room := { frames := 9, cells := 3, slots := 18, locals := 157 }
def hhL_hoursToLaunchByTides : List wHH := [((0, 9, 12, 19), (0, 9, 0, 13, 3)), ((0, 9, 15, 13), (0, 9, 2, 16, 3)), ((0, 9, 18, 64), (0, 9, 4, 19, 3))]
theorem kL_hoursToLaunchByTides : fokT cL_hoursToLaunchByTides 4 (some .int) ([], [(.invokevirtual 101, 0, 2)], [], [], [], []) tL_hoursToLaunchByTides = true := by decide +kernel
theorem ctL_hoursToLaunchByTides {G : fG} {l : Launch} (hl : l.stackTraces = false) (hG : fWf G) : fCT G l yL_hoursToLaunchByTides (Jvm.Cond.codeWith yL_hoursToLaunchByTides cL_hoursToLaunchByTides 4 (some .int) (hhL_hoursToLaunchByTides.map Prod.fst) :: fT) rL_hoursToLaunchByTides sL_hoursToLaunchByTides :=
  fcontractW (E := eL_hoursToLaunchByTides) hl hG (by decide +kernel) rfl kL_hoursToLaunchByTides rfl rfl (by decide) (fcs_cons rfl (fCS_V (ctX7_hoursToLaunchByTides hl hG) (kd := 7) (by decide) rfl (fTl_at wlX7_hoursToLaunchByTides_ok 0 rfl) (fTl_at wlX7_hoursToLaunchByTides_ok 1 rfl) (fTl_at mlL_ok 25 rfl) (fTl_at wlX7_hoursToLaunchByTides_ok 2 rfl) (fTl_at wlX7_hoursToLaunchByTides_ok 3 rfl) hdX7_hoursToLaunchByTides ⟨by decide, by decide⟩ fsemV_rc) fcs_nil) (by decide +kernel) (by decide +kernel) fsem_hS
def rL_hoursToSinking : Room := { frames := 8, cells := 2, slots := 12, locals := 154 }
def hhL_hoursToSinking : List wHH := [((0, 9, 12, 19), (0, 9, 0, 13, 3)), ((0, 9, 15, 13), (0, 9, 2, 16, 3)), ((0, 9, 18, 64), (0, 9, 4, 19, 3))]
theorem kL_hoursToSinking : fokT cL_hoursToSinking 4 (some .int) ([], [(.invokevirtual 104, 0, 2)], [], [], [], []) tL_hoursToSinking = true := by decide +kernel
theorem ctL_hoursToSinking {G : fG} {l : Launch} (hl : l.stackTraces = false) (hG : fWf G) : fCT G l yL_hoursToSinking (Jvm.Cond.codeWith yL_hoursToSinking cL_hoursToSinking 4 (some .int) (hhL_hoursToSinking.map Prod.fst) :: fT) rL_hoursToSinking sL_hoursToSinking :=
  fcontractW (E := eL_hoursToSinking) hl hG (by decide +kernel) rfl kL_hoursToSinking rfl rfl (by decide) (fcs_cons rfl (fCS_V (ctX7_hoursToSinking hl hG) (kd := 7) (by decide) rfl (fTl_at wlX7_hoursToSinking_ok 0 rfl) (fTl_at wlX7_hoursToSinking_ok 1 rfl) (fTl_at mlL_ok 26 rfl) (fTl_at wlX7_hoursToSinking_ok 2 rfl) (fTl_at wlX7_hoursToSinking_ok 3 rfl) hdX7_hoursToSinking ⟨by decide, by decide⟩ fsemV_rc) fcs_nil) (by decide +kernel) (by decide +kernel) fsem_hS
def rL_setSlip : Room := { frames := 9, cells := 1, slots := 6, locals := 221 }
def hhL_setSlip : List wHH := [((0, 10, 13, 21), (0, 10, 1, 15, 4))]
theorem kL_setSlip : fokT cL_setSlip 5 (some .int) ([], [(.invokevirtual 107, 0, 3)], [], [], [], []) tL_setSlip = true := by decide +kernel
theorem ctL_setSlip {G : fG} {l : Launch} (hl : l.stackTraces = false) (hG : fWf G) : fCT G l yL_setSlip (Jvm.Cond.codeWith yL_setSlip cL_setSlip 5 (some .int) (hhL_setSlip.map Prod.fst) :: fT) rL_setSlip sL_setSlip :=
  fcontractW (E := eL_setSlip) hl hG (by decide +kernel) rfl kL_setSlip rfl rfl (by decide) (fcs_cons rfl (fCS_V (ctX7_setSlip hl hG) (kd := 7) (by decide) rfl (fTl_at wlX7_setSlip_ok 0 rfl) (fTl_at wlX7_setSlip_ok 1 rfl) (fTl_at mlL_ok 27 rfl) (fTl_at wlX7_setSlip_ok 2 rfl) (fTl_at wlX7_setSlip_ok 3 rfl) hdX7_setSlip ⟨by decide, by decide⟩ fsemV_rc) fcs_nil) (by decide +kernel) (by decide +kernel) fsem_hS
def rL_slipLength : Room := { frames := 7, cells := 1, slots := 6, locals := 111 }
def hhL_slipLength : List wHH := [((0, 9, 12, 21), (0, 9, 1, 13, 3))]
theorem kL_slipLength : fokT cL_slipLength 4 (some .int) ([], [(.invokevirtual 110, 0, 2)], [], [], [], []) tL_slipLength = true := by decide +kernel
theorem ctL_slipLength {G : fG} {l : Launch} (hl : l.stackTraces = false) (hG : fWf G) : fCT G l yL_slipLength (Jvm.Cond.codeWith yL_slipLength cL_slipLength 4 (some .int) (hhL_slipLength.map Prod.fst) :: fT) rL_slipLength sL_slipLength :=
  fcontractW (E := eL_slipLength) hl hG (by decide +kernel) rfl kL_slipLength rfl rfl (by decide) (fcs_cons rfl (fCS_V (ctX7_slipLength hl hG) (kd := 7) (by decide) rfl (fTl_at wlX7_slipLength_ok 0 rfl) (fTl_at wlX7_slipLength_ok 1 rfl) (fTl_at mlL_ok 28 rfl) (fTl_at wlX7_slipLength_ok 2 rfl) (fTl_at wlX7_slipLength_ok 3 rfl) hdX7_slipLength ⟨by decide, by decide⟩ fsemV_rc) fcs_nil) (by decide +kernel) (by decide +kernel) fsem_hS
def rL_addOrder : Room := { frames := 9, cells := 1, slots := 6, locals := 222 }
def hhL_addOrder : List wHH := [((0, 12, 15, 21), (0, 12, 1, 17, 5)), ((0, 12, 19, 13), (0, 12, 2, 21, 5))]
theorem kL_addOrder : fokT cL_addOrder 6 (some .int) ([], [(.invokevirtual 113, 0, 4)], [], [], [], []) tL_addOrder = true := by decide +kernel
theorem ctL_addOrder {G : fG} {l : Launch} (hl : l.stackTraces = false) (hG : fWf G) : fCT G l yL_addOrder (Jvm.Cond.codeWith yL_addOrder cL_addOrder 6 (some .int) (hhL_addOrder.map Prod.fst) :: fT) rL_addOrder sL_addOrder :=
  fcontractW (E := eL_addOrder) hl hG (by decide +kernel) rfl kL_addOrder rfl rfl (by decide) (fcs_cons rfl (fCS_V (ctX7_addOrder hl hG) (kd := 7) (by decide) rfl (fTl_at wlX7_addOrder_ok 0 rfl) (fTl_at wlX7_addOrder_ok 1 rfl) (fTl_at mlL_ok 29 rfl) (fTl_at wlX7_addOrder_ok 2 rfl) (fTl_at wlX7_addOrder_ok 3 rfl) hdX7_addOrder ⟨by decide, by decide⟩ fsemV_rc) fcs_nil) (by decide +kernel) (by decide +kernel) fsem_hS
def rL_deliver : Room := { frames := 9, cells := 1, slots := 6, locals := 221 }
def hhL_deliver : List wHH := [((0, 10, 13, 64), (0, 10, 4, 15, 4)), ((0, 10, 17, 19), (0, 10, 0, 19, 4)), ((0, 10, 21, 13), (0, 10, 2, 23, 4))]
theorem kL_deliver : fokT cL_deliver 5 (some .int) ([], [(.invokevirtual 116, 0, 3)], [], [], [], []) tL_deliver = true := by decide +kernel
theorem ctL_deliver {G : fG} {l : Launch} (hl : l.stackTraces = false) (hG : fWf G) : fCT G l yL_deliver (Jvm.Cond.codeWith yL_deliver cL_deliver 5 (some .int) (hhL_deliver.map Prod.fst) :: fT) rL_deliver sL_deliver :=
  fcontractW (E := eL_deliver) hl hG (by decide +kernel) rfl kL_deliver rfl rfl (by decide) (fcs_cons rfl (fCS_V (ctX7_deliver hl hG) (kd := 7) (by decide) rfl (fTl_at wlX7_deliver_ok 0 rfl) (fTl_at wlX7_deliver_ok 1 rfl) (fTl_at mlL_ok 30 rfl) (fTl_at wlX7_deliver_ok 2 rfl) (fTl_at wlX7_deliver_ok 3 rfl) hdX7_deliver ⟨by decide, by decide⟩ fsemV_rc) fcs_nil) (by decide +kernel) (by decide +kernel) fsem_hS
def rL_orderAt : Room := { frames := 7, cells := 1, slots := 6, locals := 111 }
def hhL_orderAt : List wHH := [((0, 9, 12, 19), (0, 9, 0, 13, 3))]
theorem kL_orderAt : fokT cL_orderAt 4 (some .int) ([], [(.invokevirtual 119, 0, 2)], [], [], [], []) tL_orderAt = true := by decide +kernel
theorem ctL_orderAt {G : fG} {l : Launch} (hl : l.stackTraces = false) (hG : fWf G) : fCT G l yL_orderAt (Jvm.Cond.codeWith yL_orderAt cL_orderAt 4 (some .int) (hhL_orderAt.map Prod.fst) :: fT) rL_orderAt sL_orderAt :=
  fcontractW (E := eL_orderAt) hl hG (by decide +kernel) rfl kL_orderAt rfl rfl (by decide) (fcs_cons rfl (fCS_V (ctX7_orderAt hl hG) (kd := 7) (by decide) rfl (fTl_at wlX7_orderAt_ok 0 rfl) (fTl_at wlX7_orderAt_ok 1 rfl) (fTl_at mlL_ok 31 rfl) (fTl_at wlX7_orderAt_ok 2 rfl) (fTl_at wlX7_orderAt_ok 3 rfl) hdX7_orderAt ⟨by decide, by decide⟩ fsemV_rc) fcs_nil) (by decide +kernel) (by decide +kernel) fsem_hS
def rL_coinsFor : Room := { frames := 7, cells := 1, slots := 6, locals := 112 }
def hhL_coinsFor : List wHH := [((0, 9, 12, 64), (0, 9, 4, 13, 3))]
theorem kL_coinsFor : fokT cL_coinsFor 4 (some .int) ([], [(.invokevirtual 122, 0, 2)], [], [], [], []) tL_coinsFor = true := by decide +kernel
theorem ctL_coinsFor {G : fG} {l : Launch} (hl : l.stackTraces = false) (hG : fWf G) : fCT G l yL_coinsFor (Jvm.Cond.codeWith yL_coinsFor cL_coinsFor 4 (some .int) (hhL_coinsFor.map Prod.fst) :: fT) rL_coinsFor sL_coinsFor :=
  fcontractW (E := eL_coinsFor) hl hG (by decide +kernel) rfl kL_coinsFor rfl rfl (by decide) (fcs_cons rfl (fCS_V (ctX7_coinsFor hl hG) (kd := 7) (by decide) rfl (fTl_at wlX7_coinsFor_ok 0 rfl) (fTl_at wlX7_coinsFor_ok 1 rfl) (fTl_at mlL_ok 32 rfl) (fTl_at wlX7_coinsFor_ok 2 rfl) (fTl_at wlX7_coinsFor_ok 3 rfl) hdX7_coinsFor ⟨by decide, by decide⟩ fsemV_rc) fcs_nil) (by decide +kernel) (by decide +kernel) fsem_hS
def rL_hullsIn : Room := { frames := 7, cells := 1, slots := 6, locals := 113 }
def hhL_hullsIn : List wHH := [((0, 9, 12, 21), (0, 9, 1, 13, 3))]
theorem kL_hullsIn : fokT cL_hullsIn 4 (some .int) ([], [(.invokevirtual 125, 0, 2)], [], [], [], []) tL_hullsIn = true := by decide +kernel
theorem ctL_hullsIn {G : fG} {l : Launch} (hl : l.stackTraces = false) (hG : fWf G) : fCT G l yL_hullsIn (Jvm.Cond.codeWith yL_hullsIn cL_hullsIn 4 (some .int) (hhL_hullsIn.map Prod.fst) :: fT) rL_hullsIn sL_hullsIn :=
  fcontractW (E := eL_hullsIn) hl hG (by decide +kernel) rfl kL_hullsIn rfl rfl (by decide) (fcs_cons rfl (fCS_V (ctX7_hullsIn hl hG) (kd := 7) (by decide) rfl (fTl_at wlX7_hullsIn_ok 0 rfl) (fTl_at wlX7_hullsIn_ok 1 rfl) (fTl_at mlL_ok 33 rfl) (fTl_at wlX7_hullsIn_ok 2 rfl) (fTl_at wlX7_hullsIn_ok 3 rfl) hdX7_hullsIn ⟨by decide, by decide⟩ fsemV_rc) fcs_nil) (by decide +kernel) (by decide +kernel) fsem_hS
def rL_refusalReason : Room := { frames := 7, cells := 1, slots := 6, locals := 110 }
def hhL_refusalReason : List wHH := [((0, 8, 11, 64), (0, 8, 4, 12, 2))]
theorem kL_refusalReason : fokT cL_refusalReason 3 (some .int) ([], [(.invokevirtual 128, 0, 1)], [], [], [], []) tL_refusalReason = true := by decide +kernel
theorem ctL_refusalReason {G : fG} {l : Launch} (hl : l.stackTraces = false) (hG : fWf G) : fCT G l yL_refusalReason (Jvm.Cond.codeWith yL_refusalReason cL_refusalReason 3 (some .int) (hhL_refusalReason.map Prod.fst) :: fT) rL_refusalReason sL_refusalReason :=
  fcontractW (E := eL_refusalReason) hl hG (by decide +kernel) rfl kL_refusalReason rfl rfl (by decide) (fcs_cons rfl (fCS_V (ctX7_refusalReason hl hG) (kd := 7) (by decide) rfl (fTl_at wlX7_refusalReason_ok 0 rfl) (fTl_at wlX7_refusalReason_ok 1 rfl) (fTl_at mlL_ok 34 rfl) (fTl_at wlX7_refusalReason_ok 2 rfl) (fTl_at wlX7_refusalReason_ok 3 rfl) hdX7_refusalReason ⟨by decide, by decide⟩ fsemV_rc) fcs_nil) (by decide +kernel) (by decide +kernel) fsem_hS
def rL_meanWeight : Room := { frames := 7, cells := 1, slots := 6, locals := 112 }
def hhL_meanWeight : List wHH := [((0, 7, 10, 135), (0, 7, 5, 11, 2))]
theorem kL_meanWeight : fokT cL_meanWeight 3 (some .int) ([], [(.invokevirtual 131, 0, 1)], [], [], [], []) tL_meanWeight = true := by decide +kernel
theorem ctL_meanWeight {G : fG} {l : Launch} (hl : l.stackTraces = false) (hG : fWf G) : fCT G l yL_meanWeight (Jvm.Cond.codeWith yL_meanWeight cL_meanWeight 3 (some .int) (hhL_meanWeight.map Prod.fst) :: fT) rL_meanWeight sL_meanWeight :=
  fcontractW (E := eL_meanWeight) hl hG (by decide +kernel) rfl kL_meanWeight rfl rfl (by decide) (fcs_cons rfl (fCS_V (ctX7_meanWeight hl hG) (kd := 7) (by decide) rfl (fTl_at wlX7_meanWeight_ok 0 rfl) (fTl_at wlX7_meanWeight_ok 1 rfl) (fTl_at mlL_ok 35 rfl) (fTl_at wlX7_meanWeight_ok 2 rfl) (fTl_at wlX7_meanWeight_ok 3 rfl) hdX7_meanWeight ⟨by decide, by decide⟩ fsemV_rc) fcs_nil) (by decide +kernel) (by decide +kernel) fsem_hS
def rL_writeHull : Room := { frames := 21, cells := 60, slots := 12000, locals := 1323 }
def hhL_writeHull : List wHH := [((0, 9, 12, 19), (0, 9, 0, 13, 3))]
theorem kL_writeHull : fokT cL_writeHull 4 (some .int) ([], [(.invokevirtual 137, 0, 2)], [], [], [], []) tL_writeHull = true := by decide +kernel
theorem ctL_writeHull {G : fG} {l : Launch} (hl : l.stackTraces = false) (hG : fWf G) : fCT G l yL_writeHull (Jvm.Cond.codeWith yL_writeHull cL_writeHull 4 (some .int) (hhL_writeHull.map Prod.fst) :: fT) rL_writeHull sL_writeHull :=
  fcontractW (E := eL_writeHull) hl hG (by decide +kernel) rfl kL_writeHull rfl rfl (by decide) (fcs_cons rfl (fCS_V (ctX7_writeHull hl hG) (kd := 7) (by decide) rfl (fTl_at wlX7_writeHull_ok 0 rfl) (fTl_at wlX7_writeHull_ok 1 rfl) (fTl_at mlL_ok 36 rfl) (fTl_at wlX7_writeHull_ok 2 rfl) (fTl_at wlX7_writeHull_ok 3 rfl) hdX7_writeHull ⟨by decide, by decide⟩ fsemV_rc) fcs_nil) (by decide +kernel) (by decide +kernel) fsem_hS
def rL_lineAt : Room := { frames := 21, cells := 1, slots := 6, locals := 1321 }
def hhL_lineAt : List wHH := [((0, 9, 12, 19), (0, 9, 0, 13, 3))]
theorem kL_lineAt : fokT cL_lineAt 4 (some .int) ([], [(.invokevirtual 140, 0, 2)], [], [], [], []) tL_lineAt = true := by decide +kernel
theorem ctL_lineAt {G : fG} {l : Launch} (hl : l.stackTraces = false) (hG : fWf G) : fCT G l yL_lineAt (Jvm.Cond.codeWith yL_lineAt cL_lineAt 4 (some .int) (hhL_lineAt.map Prod.fst) :: fT) rL_lineAt sL_lineAt :=
  fcontractW (E := eL_lineAt) hl hG (by decide +kernel) rfl kL_lineAt rfl rfl (by decide) (fcs_cons rfl (fCS_V (ctX7_lineAt hl hG) (kd := 7) (by decide) rfl (fTl_at wlX7_lineAt_ok 0 rfl) (fTl_at wlX7_lineAt_ok 1 rfl) (fTl_at mlL_ok 37 rfl) (fTl_at wlX7_lineAt_ok 2 rfl) (fTl_at wlX7_lineAt_ok 3 rfl) hdX7_lineAt ⟨by decide, by decide⟩ fsemV_rc) fcs_nil) (by decide +kernel) (by decide +kernel) fsem_hS
def rL_type : Room := { frames := 7, cells := 1, slots := 6, locals := 111 }
def hhL_type : List wHH := [((0, 9, 12, 21), (0, 9, 1, 13, 3)), ((0, 9, 15, 13), (0, 9, 2, 16, 3))]
theorem kL_type : fokT cL_type 4 (some .int) ([], [(.invokevirtual 144, 0, 2)], [], [], [], []) tL_type = true := by decide +kernel
theorem ctL_type {G : fG} {l : Launch} (hl : l.stackTraces = false) (hG : fWf G) : fCT G l yL_type (Jvm.Cond.codeWith yL_type cL_type 4 (some .int) (hhL_type.map Prod.fst) :: fT) rL_type sL_type :=
  fcontractW (E := eL_type) hl hG (by decide +kernel) rfl kL_type rfl rfl (by decide) (fcs_cons rfl (fCS_V (ctX7_type hl hG) (kd := 7) (by decide) rfl (fTl_at wlX7_type_ok 0 rfl) (fTl_at wlX7_type_ok 1 rfl) (fTl_at mlL_ok 38 rfl) (fTl_at wlX7_type_ok 2 rfl) (fTl_at wlX7_type_ok 3 rfl) hdX7_type ⟨by decide, by decide⟩ fsemV_rc) fcs_nil) (by decide +kernel) (by decide +kernel) fsem_hS
def rL_execute : Room := { frames := 24, cells := 1, slots := 6, locals := 1395 }
def hhL_execute : List wHH := [((0, 8, 11, 21), (0, 8, 1, 12, 2)), ((0, 8, 14, 13), (0, 8, 2, 15, 2))]
theorem kL_execute : fokT cL_execute 3 (some .int) ([], [(.invokevirtual 148, 0, 1)], [], [], [], []) tL_execute = true := by decide +kernel
theorem ctL_execute {G : fG} {l : Launch} (hl : l.stackTraces = false) (hG : fWf G) : fCT G l yL_execute (Jvm.Cond.codeWith yL_execute cL_execute 3 (some .int) (hhL_execute.map Prod.fst) :: fT) rL_execute sL_execute :=
  fcontractW (E := eL_execute) hl hG (by decide +kernel) rfl kL_execute rfl rfl (by decide) (fcs_cons rfl (fCS_V (ctX7_execute hl hG) (kd := 7) (by decide) rfl (fTl_at wlX7_execute_ok 0 rfl) (fTl_at wlX7_execute_ok 1 rfl) (fTl_at mlL_ok 39 rfl) (fTl_at wlX7_execute_ok 2 rfl) (fTl_at wlX7_execute_ok 3 rfl) hdX7_execute ⟨by decide, by decide⟩ fsemV_rc) fcs_nil) (by decide +kernel) (by decide +kernel) fsem_hS
def rL_errorPosition : Room := { frames := 7, cells := 1, slots := 6, locals := 110 }
def hhL_errorPosition : List wHH := [((0, 8, 11, 64), (0, 8, 4, 12, 2))]
theorem kL_errorPosition : fokT cL_errorPosition 3 (some .int) ([], [(.invokevirtual 151, 0, 1)], [], [], [], []) tL_errorPosition = true := by decide +kernel
theorem ctL_errorPosition {G : fG} {l : Launch} (hl : l.stackTraces = false) (hG : fWf G) : fCT G l yL_errorPosition (Jvm.Cond.codeWith yL_errorPosition cL_errorPosition 3 (some .int) (hhL_errorPosition.map Prod.fst) :: fT) rL_errorPosition sL_errorPosition :=
  fcontractW (E := eL_errorPosition) hl hG (by decide +kernel) rfl kL_errorPosition rfl rfl (by decide) (fcs_cons rfl (fCS_V (ctX7_errorPosition hl hG) (kd := 7) (by decide) rfl (fTl_at wlX7_errorPosition_ok 0 rfl) (fTl_at wlX7_errorPosition_ok 1 rfl) (fTl_at mlL_ok 40 rfl) (fTl_at wlX7_errorPosition_ok 2 rfl) (fTl_at wlX7_errorPosition_ok 3 rfl) hdX7_errorPosition ⟨by decide, by decide⟩ fsemV_rc) fcs_nil) (by decide +kernel) (by decide +kernel) fsem_hS
def rL_failedCommand : Room := { frames := 7, cells := 1, slots := 6, locals := 110 }
def hhL_failedCommand : List wHH := [((0, 8, 11, 64), (0, 8, 4, 12, 2))]
theorem kL_failedCommand : fokT cL_failedCommand 3 (some .int) ([], [(.invokevirtual 154, 0, 1)], [], [], [], []) tL_failedCommand = true := by decide +kernel
theorem ctL_failedCommand {G : fG} {l : Launch} (hl : l.stackTraces = false) (hG : fWf G) : fCT G l yL_failedCommand (Jvm.Cond.codeWith yL_failedCommand cL_failedCommand 3 (some .int) (hhL_failedCommand.map Prod.fst) :: fT) rL_failedCommand sL_failedCommand :=
  fcontractW (E := eL_failedCommand) hl hG (by decide +kernel) rfl kL_failedCommand rfl rfl (by decide) (fcs_cons rfl (fCS_V (ctX7_failedCommand hl hG) (kd := 7) (by decide) rfl (fTl_at wlX7_failedCommand_ok 0 rfl) (fTl_at wlX7_failedCommand_ok 1 rfl) (fTl_at mlL_ok 41 rfl) (fTl_at wlX7_failedCommand_ok 2 rfl) (fTl_at wlX7_failedCommand_ok 3 rfl) hdX7_failedCommand ⟨by decide, by decide⟩ fsemV_rc) fcs_nil) (by decide +kernel) (by decide +kernel) fsem_hS
def rL_undo : Room := { frames := 7, cells := 1, slots := 6, locals := 194 }
def hhL_undo : List wHH := [((0, 8, 11, 13), (0, 8, 2, 12, 2))]
theorem kL_undo : fokT cL_undo 3 (some .int) ([], [(.invokevirtual 157, 0, 1)], [], [], [], []) tL_undo = true := by decide +kernel
theorem ctL_undo {G : fG} {l : Launch} (hl : l.stackTraces = false) (hG : fWf G) : fCT G l yL_undo (Jvm.Cond.codeWith yL_undo cL_undo 3 (some .int) (hhL_undo.map Prod.fst) :: fT) rL_undo sL_undo :=
  fcontractW (E := eL_undo) hl hG (by decide +kernel) rfl kL_undo rfl rfl (by decide) (fcs_cons rfl (fCS_V (ctX7_undo hl hG) (kd := 7) (by decide) rfl (fTl_at wlX7_undo_ok 0 rfl) (fTl_at wlX7_undo_ok 1 rfl) (fTl_at mlL_ok 42 rfl) (fTl_at wlX7_undo_ok 2 rfl) (fTl_at wlX7_undo_ok 3 rfl) hdX7_undo ⟨by decide, by decide⟩ fsemV_rc) fcs_nil) (by decide +kernel) (by decide +kernel) fsem_hS
def rL_restore : Room := { frames := 7, cells := 1, slots := 6, locals := 173 }
def hhL_restore : List wHH := [((0, 8, 11, 13), (0, 8, 2, 12, 2))]
theorem kL_restore : fokT cL_restore 3 (some .int) ([], [(.invokevirtual 160, 0, 1)], [], [], [], []) tL_restore = true := by decide +kernel
theorem ctL_restore {G : fG} {l : Launch} (hl : l.stackTraces = false) (hG : fWf G) : fCT G l yL_restore (Jvm.Cond.codeWith yL_restore cL_restore 3 (some .int) (hhL_restore.map Prod.fst) :: fT) rL_restore sL_restore :=
  fcontractW (E := eL_restore) hl hG (by decide +kernel) rfl kL_restore rfl rfl (by decide) (fcs_cons rfl (fCS_V (ctX7_restore hl hG) (kd := 7) (by decide) rfl (fTl_at wlX7_restore_ok 0 rfl) (fTl_at wlX7_restore_ok 1 rfl) (fTl_at mlL_ok 43 rfl) (fTl_at wlX7_restore_ok 2 rfl) (fTl_at wlX7_restore_ok 3 rfl) hdX7_restore ⟨by decide, by decide⟩ fsemV_rc) fcs_nil) (by decide +kernel) (by decide +kernel) fsem_hS
