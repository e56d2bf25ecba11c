/-! MEANINGS OF JDK MEMBERS that are no flat code: arraycopy, String.length, charAt, the StringBuilder's members -/
def fCp (μ : fM) (c0 y0 h0 c1 y1 h1 sp dp n : Nat) : fM := (fun c y h k => if c = c1 ∧ y = y1 ∧ h = h1 ∧ dp ≤ k ∧ k < dp + n then μ.1 c0 y0 h0 (sp + (k - dp)) else μ.1 c y h k, μ.2)
def sCopy : fS := fun a μ => match a with
  | [.inl (c0, y0, h0), .inr (.inl sp), .inl (c1, y1, h1), .inr (.inl dp), .inr (.inl n)] => bif Nat.beq (fal c0).1 0 && Nat.beq (fal c1).1 0 then
      (if ¬ sp < 0 ∧ ¬ dp < 0 ∧ ¬ n < 0 ∧ sp.toNatClampNeg + n.toNatClampNeg ≤ (fal c0).2 ∧ dp.toNatClampNeg + n.toNatClampNeg ≤ (fal c1).2 then some (.inl none, fCp μ c0 y0 h0 c1 y1 h1 sp.toNatClampNeg dp.toNatClampNeg n.toNatClampNeg) else none) else none
  | _ => none
def sStrLen : fS := fun a μ => match a with
  | [.inl (c, i, _)] => bif Nat.beq c 52 && Nat.blt i 11 then some (.inl (some (vI (nI (fLen.getD i 0)))), μ) else none
  | _ => none
def sStrAt : fS := fun a μ => match a with
  | [.inl (c, i, _), .inr (.inl k)] => bif Nat.beq c 52 && Nat.blt i 11 then (if fin k (fLen.getD i 0) then some (.inl (some (vI ((fByt.getD i []).getD k.toNatClampNeg 0))), μ) else none) else none
  | _ => none
def sSbLen : fS := fun a μ => match a with
  | [.inl (c, _, _)] => bif Nat.beq c 51 then some (.inl (some (vI (μ.1 51 1 0 0))), μ) else none
  | _ => none
def sSbAt : fS := fun a μ => match a with
  | [.inl (c, _, _), .inr (.inl k)] => bif Nat.beq c 51 then (if fin k (μ.1 51 1 0 0).toNatClampNeg then some (.inl (some (vI (μ.1 51 0 0 k.toNatClampNeg))), μ) else none) else none
  | _ => none
def sSbSet : fS := fun a μ => match a with
  | [.inl (c, _, _), .inr (.inl k)] => bif Nat.beq c 51 then (if k = 0 then some (.inl none, fI μ 51 1 0 0 0) else none) else none
  | _ => none
/-- the letter x behind the text -/
def fPush (μ : fM) (x : Int32) : fM := fI (fI μ 51 0 0 (μ.1 51 1 0 0).toNatClampNeg x) 51 1 0 0 (μ.1 51 1 0 0 + 1)
def sSbC : fS := fun a μ => match a with
  | [.inl (c, _, _), .inr (.inl x)] => bif Nat.beq c 51 then (if 0 ≤ x ∧ x < 128 ∧ 0 ≤ μ.1 51 1 0 0 ∧ μ.1 51 1 0 0 < 90 then some (.inl (some (vR 51 0 0)), fPush μ x) else none) else none
  | _ => none
def sSbI : fS := fun a μ => match a with
  | [.inl (c, _, _), .inr (.inl x)] => bif Nat.beq c 51 then (if 0 ≤ x ∧ x < 100 ∧ 0 ≤ μ.1 51 1 0 0 ∧ μ.1 51 1 0 0 < 90 then some (.inl (some (vR 51 0 0)), if x < 10 then fPush μ (48 + x) else fPush (fPush μ (48 + x / 10)) (48 + (x - x / 10 * 10))) else none) else none
  | _ => none
theorem fcell_fCp_ne {G : fG} {μ : fM} {c0 y0 h0 c1 y1 h1 sp dp n : Nat} {r : Nat × Nat × Nat} (hne : r ≠ (c1, y1, h1)) : fcell G (fCp μ c0 y0 h0 c1 y1 h1 sp dp n) r = fcell G μ r := by
  obtain ⟨c', y', h'⟩ := r
  have hn : ∀ j, ¬ (c' = c1 ∧ y' = y1 ∧ h' = h1 ∧ dp ≤ j ∧ j < dp + n) := fun j q => hne (by rw [q.1, q.2.1, q.2.2.1])
  have e : ∀ j, (fCp μ c0 y0 h0 c1 y1 h1 sp dp n).1 c' y' h' j = μ.1 c' y' h' j := fun j => if_neg (hn j)
  have e2 : ∀ j, ffv (fCp μ c0 y0 h0 c1 y1 h1 sp dp n) c' y' h' j = ffv μ c' y' h' j := fun j => by
    unfold ffv
    rw [e j]
    rfl
  unfold fcell
  simp only [ffs, e2, facon, e]
  rfl
theorem fcell_fCp_arr {G : fG} {μ : fM} {c0 y0 h0 c1 y1 h1 sp dp n : Nat} (hc : (fal c1).1 = 0) : fcell G (fCp μ c0 y0 h0 c1 y1 h1 sp dp n) (c1, y1, h1) = .inl (G.2.2.1 0, (fal c1).2, .inl (va_cpy (fun j => μ.1 c0 y0 h0 j) (fun j => μ.1 c1 y1 h1 j) sp dp n)) := by
  have h9 : ¬ c1 < 9 := fal_ge (by omega)
  have e : (fun j => (fCp μ c0 y0 h0 c1 y1 h1 sp dp n).1 c1 y1 h1 j) = va_cpy (fun j => μ.1 c0 y0 h0 j) (fun j => μ.1 c1 y1 h1 j) sp dp n := by
    funext j
    simp [fCp, va_cpy]
  rw [fcell_a h9, hc]
  simp only [facon, hc, e]
theorem cs_copy {G : fG} {l : Launch} {own : String} {cc : ByteArray} {nL idx : Nat} {R : Room} (hl : Jvm.Cond.methodLink own idx arraycopyName ∈ fT) (hnat : Jvm.Cond.native arraycopyName ∈ fT) (hstat : Jvm.Cond.static arraycopyName ∈ fT) (hini : Jvm.Cond.initialized "java/lang/System" ∈ fT) (hR : 1 ≤ R.frames ∧ 100 ≤ R.locals) : fCS G l own cc nL R (.invokestatic idx) 5 sCopy 0 0 := by
  intro p e s m args below meth c H locs cells slots Q pc ls C hdg hls as rest μ res hlen hS hok hcat hM hSS hcl hsl kk kx
  obtain ⟨hx, hb, hml, hown, hts, hlocks, hst, hG, hP⟩ := C
  unfold sCopy at hS
  split at hS
  · rename_i c0 y0 h0 sp c1 y1 h1 dp n
    cases hb0 : (Nat.beq (fal c0).1 0 && Nat.beq (fal c1).1 0) <;> rw [hb0] at hS
    · cases hS
    rw [Bool.and_eq_true] at hb0
    have e0 := Nat.eq_of_beq_eq_true hb0.1
    have e1 := Nat.eq_of_beq_eq_true hb0.2
    simp only [cond_true] at hS
    split at hS
    · rename_i hc
      cases hS
      obtain ⟨g1, g2, g3, g4, g5⟩ := hc
      have r0 : (c0, y0, h0) ∈ frefs := fin_frefs (hok _ (by simp)) (by omega)
      have r1 : (c1, y1, h1) ∈ frefs := fin_frefs (hok _ (by simp)) (by omega)
      obtain ⟨j0, hj0⟩ := fidx r0
      obtain ⟨j1, hj1⟩ := fidx r1
      obtain ⟨sw, hPP, hDD, hback⟩ := fMem_open hG hM
      have hnf : nativeFrameWords "java/lang/System" "arraycopy" 5 ≤ 60 := by decide +kernel
      refine va_copyi (a0 := G.1 (c0, y0, h0)) (a := G.1 (c1, y1, h1)) (n0 := (fal c0).2) (n1 := (fal c1).2) (rest := rest.map (ftv G)) hx hb (hml.trans hls.symm) hown (hts _ hl) (hts _ hnat) (hts _ hstat) (hts _ hini) hP.1 hPP hDD hSS j0 j1 0 0 (c0 := G.2.2.1 0) (c1 := G.2.2.1 0) (f := fun j => μ.1 c0 y0 h0 j) (g := fun j => μ.1 c1 y1 h1 j) (ty := .int) (by rw [fopen_at hj0, fcell_a (fal_ge (by omega)), e0]; simp only [facon, e0]) (by rw [fopen_at hj1, fcell_a (fal_ge (by omega)), e1]; simp only [facon, e1]) (ftys_at G 0 (by omega)) (ftys_at G 0 (by omega)) rfl g1 g2 g3 g4 g5 (fun _ _ => rfl) hR.1 (by rw [fcats_sum]; omega) hdg (fun H1 locs1 hP1 hD1 hS1 => ?_)
      rw [fopen_set (μ' := fCp μ c0 y0 h0 c1 y1 h1 sp.toNatClampNeg dp.toNatClampNeg n.toNatClampNeg) hj1 (fcell_fCp_arr e1) (fun r' _ hne => fcell_fCp_ne hne)] at hP1
      exact kk none rfl (fun _ h => by cases h) H1 locs1 (hback _ H1 (fun y j => if_neg (fun q => by
        have := q.1
        subst this
        exact absurd e1 (by decide +kernel))) hP1) hS1
    · cases hS
  · cases hS
theorem cs_strLen {G : fG} {l : Launch} {own : String} {cc : ByteArray} {nL idx : Nat} {R : Room} (hl : Jvm.Cond.methodLink own idx ⟨"java/lang/String", "length", "()I"⟩ ∈ fT) (hf : l.stackTraces = false) (hG : fWf G) (hR : 16 ≤ R.frames ∧ 1200 ≤ R.locals) : fCS G l own cc nL R (.invokevirtual idx) 1 sStrLen 0 0 := by
  sorry
theorem cs_strAt {G : fG} {l : Launch} {own : String} {cc : ByteArray} {nL idx : Nat} {R : Room} (hl : Jvm.Cond.methodLink own idx ⟨"java/lang/String", "charAt", "(I)C"⟩ ∈ fT) (hf : l.stackTraces = false) (hG : fWf G) (hR : 16 ≤ R.frames ∧ 1200 ≤ R.locals) : fCS G l own cc nL R (.invokevirtual idx) 2 sStrAt 0 0 := by
  sorry
theorem cs_sbLen {G : fG} {l : Launch} {own : String} {cc : ByteArray} {nL idx : Nat} {R : Room} (hl : Jvm.Cond.methodLink own idx ⟨"java/lang/StringBuilder", "length", "()I"⟩ ∈ fT) (hf : l.stackTraces = false) (hG : fWf G) (hR : 16 ≤ R.frames ∧ 1200 ≤ R.locals) : fCS G l own cc nL R (.invokevirtual idx) 1 sSbLen 0 0 := by
  sorry
theorem cs_sbAt {G : fG} {l : Launch} {own : String} {cc : ByteArray} {nL idx : Nat} {R : Room} (hl : Jvm.Cond.methodLink own idx ⟨"java/lang/StringBuilder", "charAt", "(I)C"⟩ ∈ fT) (hf : l.stackTraces = false) (hG : fWf G) (hR : 16 ≤ R.frames ∧ 1200 ≤ R.locals) : fCS G l own cc nL R (.invokevirtual idx) 2 sSbAt 0 0 := by
  sorry
theorem cs_sbSet {G : fG} {l : Launch} {own : String} {cc : ByteArray} {nL idx : Nat} {R : Room} (hl : Jvm.Cond.methodLink own idx ⟨"java/lang/StringBuilder", "setLength", "(I)V"⟩ ∈ fT) (hf : l.stackTraces = false) (hG : fWf G) (hR : 16 ≤ R.frames ∧ 1200 ≤ R.locals) : fCS G l own cc nL R (.invokevirtual idx) 2 sSbSet 0 0 := by
  sorry
theorem cs_sbC {G : fG} {l : Launch} {own : String} {cc : ByteArray} {nL idx : Nat} {R : Room} (hl : Jvm.Cond.methodLink own idx ⟨"java/lang/StringBuilder", "append", "(C)Ljava/lang/StringBuilder;"⟩ ∈ fT) (hf : l.stackTraces = false) (hG : fWf G) (hR : 16 ≤ R.frames ∧ 1200 ≤ R.locals) : fCS G l own cc nL R (.invokevirtual idx) 2 sSbC 1 200 := by
  sorry
theorem cs_sbI {G : fG} {l : Launch} {own : String} {cc : ByteArray} {nL idx : Nat} {R : Room} (hl : Jvm.Cond.methodLink own idx ⟨"java/lang/StringBuilder", "append", "(I)Ljava/lang/StringBuilder;"⟩ ∈ fT) (hf : l.stackTraces = false) (hG : fWf G) (hR : 16 ≤ R.frames ∧ 1200 ≤ R.locals) : fCS G l own cc nL R (.invokevirtual idx) 2 sSbI 1 200 := by
  sorry
/-! lists of words by their places -/
def fTl (l : List (Jvm.Cond × Nat)) : Prop := ∀ q ∈ l, lw_tbl[q.2]? = some q.1 ∧ goodWord q.1 = true
theorem fTl_at {l : List (Jvm.Cond × Nat)} (h : fTl l) (k : Nat) {w : Jvm.Cond} {i : Nat} (hk : l[k]? = some (w, i)) : w ∈ fT := fT_mem i (h (w, i) (List.mem_of_getElem? hk)).1 (h (w, i) (List.mem_of_getElem? hk)).2
def fNl (l : List (Jvm.Cond × Nat)) : Prop := ∀ q ∈ l, lw_tbl[q.2]? = some q.1 ∧ fNwb q.1 = true
theorem fNl_at {l : List (Jvm.Cond × Nat)} (h : fNl l) (k : Nat) {w : Jvm.Cond} {i : Nat} (hk : l[k]? = some (w, i)) : w ∈ fNw := List.mem_filter.mpr ⟨List.mem_of_getElem? (h (w, i) (List.mem_of_getElem? hk)).1, (h (w, i) (List.mem_of_getElem? hk)).2⟩
theorem fcs_nil {G : fG} {l : Launch} {own : String} {cc : ByteArray} {nL : Nat} {R : Room} {E : fE} : ∀ x ∈ ([] : List (Instr × Nat × Nat)), ∃ f, E.1[x.2.1]? = some f ∧ fCS G l own cc nL R x.1 x.2.2 f.1 f.2.1 f.2.2 := fun _ h => (List.not_mem_nil h).elim
theorem fcs_cons {G : fG} {l : Launch} {own : String} {cc : ByteArray} {nL : Nat} {R : Room} {E : fE} {x : Instr × Nat × Nat} {t : List (Instr × Nat × Nat)} {f : fS × Nat × Nat} (h1 : E.1[x.2.1]? = some f) (h2 : fCS G l own cc nL R x.1 x.2.2 f.1 f.2.1 f.2.2) (h : ∀ z ∈ t, ∃ f, E.1[z.2.1]? = some f ∧ fCS G l own cc nL R z.1 z.2.2 f.1 f.2.1 f.2.2) : ∀ z ∈ x :: t, ∃ f, E.1[z.2.1]? = some f ∧ fCS G l own cc nL R z.1 z.2.2 f.1 f.2.1 f.2.2 := by
  intro z hz
  rcases List.mem_cons.mp hz with rfl | hz
  · exact ⟨f, h1, h2⟩
  · exact h z hz
theorem fth_nil {G : fG} {l : Launch} {own : String} {cc : ByteArray} {nL : Nat} {R : Room} : ∀ x ∈ ([] : List (Nat × Nat)), fTH G l own cc nL R x.1 x.2 := fun _ h => (List.not_mem_nil h).elim
theorem fth_cons {G : fG} {l : Launch} {own : String} {cc : ByteArray} {nL : Nat} {R : Room} {x : Nat × Nat} {t : List (Nat × Nat)} (h1 : fTH G l own cc nL R x.1 x.2) (h : ∀ z ∈ t, fTH G l own cc nL R z.1 z.2) : ∀ z ∈ x :: t, fTH G l own cc nL R z.1 z.2 := by
  intro z hz
  rcases List.mem_cons.mp hz with rfl | hz
  · exact h1
  · exact h z hz
theorem fsem_hS {E : fE} {t : fTb} {nL : Nat} : ∀ a μ res, fsem E t nL a μ = some res → (fargs a).length ≤ nL ∧ fEnds (fun n => frun E t n 0 (fentry a nL) [] μ 0 0) res := fun _ _ _ h => fsem_to h
theorem fsemV_hS {kd : Nat} {E : fE} {t : fTb} {nL : Nat} : ∀ a μ res, fsemV kd E t nL a μ = some res → (fargs a).length ≤ nL ∧ fEnds (fun n => frun E t n 0 (fentry a nL) [] μ 0 0) res := fun _ _ _ h => fsem_to (fsemV_to h).1
theorem fsemV_rc {kd : Nat} {E : fE} {t : fTb} {nL : Nat} : ∀ as μ res, fsemV kd E t nL as μ = some res → ∃ y' h r, as = .inl (kd, y', h) :: r := fun _ _ _ h => (fsemV_to h).2
