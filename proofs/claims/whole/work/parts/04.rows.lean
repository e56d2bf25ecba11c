theorem fal_lt : ∀ c, c < 9 → (fal c).1 = 9 := by decide +kernel
theorem fal_ge {c : Nat} (h : (fal c).1 ≠ 9) : ¬ c < 9 := fun q => h (fal_lt c q)
/-- what a write at another kind, or another place, leaves -/
theorem fcell_fI_ne {G : fG} {μ : fM} {c y h k : Nat} {x : Int32} {r : Nat × Nat × Nat} (hne : r ≠ (c, y, h)) : fcell G (fI μ c y h k x) r = fcell G μ r := by
  obtain ⟨c', y', h'⟩ := r
  have hn : ∀ j, ¬ (c' = c ∧ j = k ∧ y' = y ∧ h' = h) := fun j q => hne (by rw [q.1, q.2.2.1, q.2.2.2])
  have e : ∀ j, (fI μ c y h k x).1 c' y' h' j = μ.1 c' y' h' j := fun j => if_neg (hn j)
  have e2 : ∀ j, ffv (fI μ c y h k x) c' y' h' j = ffv μ c' y' h' j := fun j => by
    unfold ffv
    rw [e j]
    rfl
  unfold fcell
  simp only [ffs, e2, facon, e]
  rfl
theorem fcell_fJ_ne {G : fG} {μ : fM} {c y h k : Nat} {x : Int64} {r : Nat × Nat × Nat} (hne : r ≠ (c, y, h)) : fcell G (fJ μ c y h k x) r = fcell G μ r := by
  obtain ⟨c', y', h'⟩ := r
  have hn : ∀ j, ¬ (c' = c ∧ j = k ∧ y' = y ∧ h' = h) := fun j q => hne (by rw [q.1, q.2.2.1, q.2.2.2])
  have e : ∀ j, (fJ μ c y h k x).2.1 c' y' h' j = μ.2.1 c' y' h' j := fun j => if_neg (hn j)
  have e2 : ∀ j, ffv (fJ μ c y h k x) c' y' h' j = ffv μ c' y' h' j := fun j => by
    unfold ffv
    rw [e j]
    rfl
  unfold fcell
  simp only [ffs, e2, facon, e]
  rfl
theorem fcell_fD_ne {G : fG} {μ : fM} {c y h k : Nat} {x : UInt64} {r : Nat × Nat × Nat} (hne : r ≠ (c, y, h)) : fcell G (fD μ c y h k x) r = fcell G μ r := by
  obtain ⟨c', y', h'⟩ := r
  have hn : ∀ j, ¬ (c' = c ∧ j = k ∧ y' = y ∧ h' = h) := fun j q => hne (by rw [q.1, q.2.2.1, q.2.2.2])
  have e : ∀ j, (fD μ c y h k x).2.2 c' y' h' j = μ.2.2 c' y' h' j := fun j => if_neg (hn j)
  unfold fcell
  simp only [facon, e]
  rfl
theorem fcell_fI_arr {G : fG} {μ : fM} {c y h k : Nat} {x : Int32} (hc : (fal c).1 = 0 ∨ (fal c).1 = 1 ∨ (fal c).1 = 2) : fcell G (fI μ c y h k x) (c, y, h) = .inl (G.2.2.1 (fal c).1, (fal c).2, .inl (upd (fun j => μ.1 c y h j) k x)) := by
  have h9 : ¬ c < 9 := fal_ge (by omega)
  have e : (fun j => (fI μ c y h k x).1 c y h j) = upd (fun j => μ.1 c y h j) k x := by
    funext j
    simp [fI, upd]
  rw [fcell_a h9]
  rcases hc with hc | hc | hc <;> simp only [facon, hc, e]
theorem fcell_fJ_arr {G : fG} {μ : fM} {c y h k : Nat} {x : Int64} (hc : (fal c).1 = 3) : fcell G (fJ μ c y h k x) (c, y, h) = .inl (G.2.2.1 (fal c).1, (fal c).2, .inr (.inl (vp_updL (fun j => μ.2.1 c y h j) k x))) := by
  have h9 : ¬ c < 9 := fal_ge (by omega)
  have e : (fun j => (fJ μ c y h k x).2.1 c y h j) = vp_updL (fun j => μ.2.1 c y h j) k x := by
    funext j
    simp [fJ, vp_updL]
  rw [fcell_a h9]
  simp only [facon, hc, e]
theorem fcell_fD_arr {G : fG} {μ : fM} {c y h k : Nat} {x : UInt64} (hc : (fal c).1 = 4) : fcell G (fD μ c y h k x) (c, y, h) = .inl (G.2.2.1 (fal c).1, (fal c).2, .inr (.inr (.inr (.inl (vf_upd (fun j => μ.2.2 c y h j) k x))))) := by
  have h9 : ¬ c < 9 := fal_ge (by omega)
  have e : (fun j => (fD μ c y h k x).2.2 c y h j) = vf_upd (fun j => μ.2.2 c y h j) k x := by
    funext j
    simp [fD, vf_upd]
  rw [fcell_a h9]
  simp only [facon, hc, e]
theorem ffs_fI {G : fG} {μ : fM} {c y h k : Nat} {x : Int32} (hk : k < fnf c) (hc : (fkfL.getD c []).getD k 0 = 0 ∨ (fkfL.getD c []).getD k 0 = 1) : ffs G (fI μ c y h k x) c y h = (ffs G μ c y h).set k (.int x) := by
  apply List.ext_getElem?
  intro j
  rw [List.getElem?_set]
  by_cases hj : k = j
  · subst hj
    rw [if_pos rfl, if_pos (by rw [ffs_len]; exact hk), ffs_at hk]
    unfold ffv
    rcases hc with hc | hc <;> (rw [hc]; simp [fI, ftv])
  · rw [if_neg hj]
    have e : ffv (fI μ c y h k x) c y h j = ffv μ c y h j := by
      unfold ffv
      have : (fI μ c y h k x).1 c y h j = μ.1 c y h j := if_neg (fun q => hj q.2.1.symm)
      rw [this]
      rfl
    simp only [ffs, List.getElem?_map]
    cases hr : (List.range (fnf c))[j]? with
    | none => rfl
    | some w =>
      have : w = j := by
        obtain ⟨h1, h2⟩ := List.getElem?_eq_some_iff.mp hr
        simpa using h2.symm
      subst this
      simp only [Option.map_some, e]
theorem ffs_fJ {G : fG} {μ : fM} {c y h k : Nat} {x : Int64} (hk : k < fnf c) (hc : (fkfL.getD c []).getD k 0 = 2) : ffs G (fJ μ c y h k x) c y h = (ffs G μ c y h).set k (.long x) := by
  apply List.ext_getElem?
  intro j
  rw [List.getElem?_set]
  by_cases hj : k = j
  · subst hj
    rw [if_pos rfl, if_pos (by rw [ffs_len]; exact hk), ffs_at hk]
    unfold ffv
    rw [hc]
    simp [fJ, ftv]
  · rw [if_neg hj]
    have e : ffv (fJ μ c y h k x) c y h j = ffv μ c y h j := by
      unfold ffv
      have : (fJ μ c y h k x).2.1 c y h j = μ.2.1 c y h j := if_neg (fun q => hj q.2.1.symm)
      rw [this]
      rfl
    simp only [ffs, List.getElem?_map]
    cases hr : (List.range (fnf c))[j]? with
    | none => rfl
    | some w =>
      have : w = j := by
        obtain ⟨h1, h2⟩ := List.getElem?_eq_some_iff.mp hr
        simpa using h2.symm
      subst this
      simp only [Option.map_some, e]
/-- all cells of the memory as one list -/
theorem fMem_open {G : fG} {μ : fM} {H : Heap} (hG : fWf G) (hM : fMem G μ H) : ∃ sw : va_W, va_P G.2.1 fcl (fws G μ ++ sw) H ∧ va_D (fA G) (fws G μ ++ sw) ∧ ∀ (μ' : fM) (H1 : Heap), (∀ y j, μ'.1 51 y 0 j = μ.1 51 y 0 j) → va_P G.2.1 fcl (fws G μ' ++ sw) H1 → fMem G μ' H1 := by
  obtain ⟨hP, q, m, n, a, ml, hQ, h1, h2, h3, h4, h5, h6, h7, h8⟩ := hM
  refine ⟨[(G.1 (51, 0, 0), .inr (9, [.ref q, .int 0, .int ml, .int (nI n)])), (q, .inl (G.2.2.1 8, m, .inl a))], hP.app hQ, va_D.app (fD_ws hG) ⟨fun i j x y hx hy hxy => ?_, fun i x hx => ?_⟩ (fun i j x y hx hy hxy => ?_), fun μ' H1 hm hP1 => ⟨fun k x hx => hP1 k x (by rw [List.getElem?_append_left (List.getElem?_eq_some_iff.mp hx).1]; exact hx), q, m, n, a, ml, fun k x hx => ?_, h1, h2, h3, h4, h5, h6, (hm 1 0).trans h7, fun j hj => ⟨(h8 j hj).1, (hm 0 j).trans (h8 j hj).2⟩⟩⟩
  · match i, j, hx, hy with
    | 0, 0, _, _ => rfl
    | 1, 1, _, _ => rfl
    | 0, 1, hx, hy => cases hx; cases hy; exact absurd hxy.symm h3
    | 1, 0, hx, hy => cases hx; cases hy; exact absurd hxy h3
  · match i, hx with
    | 0, hx => cases hx; exact hG.2.2.2
    | 1, hx => cases hx; exact h2
  · simp only [fws, List.getElem?_map, Option.map_eq_some_iff] at hx
    obtain ⟨r, hr, rfl⟩ := hx
    match j, hy with
    | 0, hy => cases hy; exact hG.2.2.1 r (List.mem_of_getElem? hr) hxy
    | 1, hy => cases hy; exact h1 r (List.mem_of_getElem? hr) hxy
  · exact hP1 ((fws G μ').length + k) x (by rw [List.getElem?_append_right (Nat.le_add_right _ _), Nat.add_sub_cancel_left]; exact hx)
theorem fws_len (G : fG) (μ : fM) : (fws G μ).length = frefs.length := by simp [fws]
theorem fopen_at {G : fG} {μ : fM} {sw : va_W} {j : Nat} {r : Nat × Nat × Nat} (hj : frefs[j]? = some r) : (fws G μ ++ sw)[j]? = some (G.1 r, fcell G μ r) := by
  rw [List.getElem?_append_left (by rw [fws_len]; exact (List.getElem?_eq_some_iff.mp hj).1)]
  exact fws_at hj
theorem fopen_set {G : fG} {μ μ' : fM} {sw : va_W} {j : Nat} {r : Nat × Nat × Nat} {ee : va_E} (hj : frefs[j]? = some r) (he : fcell G μ' r = ee) (hs : ∀ r' ∈ frefs, r' ≠ r → fcell G μ' r' = fcell G μ r') : (fws G μ ++ sw).set j (G.1 r, ee) = fws G μ' ++ sw := by
  rw [List.set_append_left _ _ (by rw [fws_len]; exact (List.getElem?_eq_some_iff.mp hj).1), fws_set hj he hs]
section FRW
variable {p : Program} {l : Launch} {e : Env} {R : Room} {s : State} {m : MethodId} {args : Array Value} {below : List Frame} {meth : Method} {c : Code} {H : Heap} {locs : List Loc} {cells slots : Nat} {Q : State → Prop}
variable {cc : ByteArray} {pc : Nat} {ls : Array Slot} {rest : List Value} {G : fG} {μ : fM} {q y h : Nat} {i : Int32}
theorem ftys_at (G : fG) (t : Nat) (ht : t < 9) : (ftys G)[t]? = some (G.2.2.1 t, fty.getD t .int) := by
  simp [ftys, ht]
theorem fr_iald (hx : p.tables.exec = Jvm.exec) (hb : c.code = cc) (hK : va_K G.2.1 fcl (ftys G) s) (hM : fMem G μ H) (hr : (q, y, h) ∈ frefs) (hc : (fal q).1 = 0) (hin : fin i (fal q).2) (hdg : decode cc pc = .ok (.iaload, 1))
    (kk : W p l e R s m args below meth c H locs cells slots Q (F0 m (pc + 1) ls (.int (μ.1 q y h i.toNatClampNeg) :: rest))) : W p l e R s m args below meth c H locs cells slots Q (F0 m pc ls (.int i :: .ref (G.1 (q, y, h)) :: rest)) := by
  obtain ⟨j, hj⟩ := fidx hr
  exact va_iald hx hb hK hM.1 j 0 (cA := G.2.2.1 0) (n := (fal q).2) (f := fun j => μ.1 q y h j) (by rw [fws_at hj, fcell_a (fal_ge (by omega)), hc]; simp only [facon, hc]) (ftys_at G 0 (by omega)) hin hdg kk
theorem fr_zald (hx : p.tables.exec = Jvm.exec) (hb : c.code = cc) (hK : va_K G.2.1 fcl (ftys G) s) (hM : fMem G μ H) (hr : (q, y, h) ∈ frefs) (hc : (fal q).1 = 1) (hin : fin i (fal q).2) (hdg : decode cc pc = .ok (.baload, 1))
    (kk : W p l e R s m args below meth c H locs cells slots Q (F0 m (pc + 1) ls (.int (μ.1 q y h i.toNatClampNeg) :: rest))) : W p l e R s m args below meth c H locs cells slots Q (F0 m pc ls (.int i :: .ref (G.1 (q, y, h)) :: rest)) := by
  obtain ⟨j, hj⟩ := fidx hr
  exact va_zald hx hb hK hM.1 j 1 (cA := G.2.2.1 1) (n := (fal q).2) (f := fun j => μ.1 q y h j) (by rw [fws_at hj, fcell_a (fal_ge (by omega)), hc]; simp only [facon, hc]) (ftys_at G 1 (by omega)) hin hdg kk
theorem fr_cald (hx : p.tables.exec = Jvm.exec) (hb : c.code = cc) (hK : va_K G.2.1 fcl (ftys G) s) (hM : fMem G μ H) (hr : (q, y, h) ∈ frefs) (hc : (fal q).1 = 2) (hin : fin i (fal q).2) (hdg : decode cc pc = .ok (.caload, 1))
    (kk : W p l e R s m args below meth c H locs cells slots Q (F0 m (pc + 1) ls (.int (μ.1 q y h i.toNatClampNeg) :: rest))) : W p l e R s m args below meth c H locs cells slots Q (F0 m pc ls (.int i :: .ref (G.1 (q, y, h)) :: rest)) := by
  obtain ⟨j, hj⟩ := fidx hr
  exact va_cald hx hb hK hM.1 j 2 (cA := G.2.2.1 2) (n := (fal q).2) (f := fun j => μ.1 q y h j) (by rw [fws_at hj, fcell_a (fal_ge (by omega)), hc]; simp only [facon, hc]) (ftys_at G 2 (by omega)) hin hdg kk
theorem fr_lald (hx : p.tables.exec = Jvm.exec) (hb : c.code = cc) (hK : va_K G.2.1 fcl (ftys G) s) (hM : fMem G μ H) (hr : (q, y, h) ∈ frefs) (hc : (fal q).1 = 3) (hin : fin i (fal q).2) (hdg : decode cc pc = .ok (.laload, 1))
    (kk : W p l e R s m args below meth c H locs cells slots Q (F0 m (pc + 1) ls (.long (μ.2.1 q y h i.toNatClampNeg) :: rest))) : W p l e R s m args below meth c H locs cells slots Q (F0 m pc ls (.int i :: .ref (G.1 (q, y, h)) :: rest)) := by
  obtain ⟨j, hj⟩ := fidx hr
  exact va_lald hx hb hK hM.1 j 3 (cA := G.2.2.1 3) (n := (fal q).2) (f := fun j => μ.2.1 q y h j) (by rw [fws_at hj, fcell_a (fal_ge (by omega)), hc]; simp only [facon, hc]) (ftys_at G 3 (by omega)) hin hdg kk
theorem fr_dald (hx : p.tables.exec = Jvm.exec) (hb : c.code = cc) (hK : va_K G.2.1 fcl (ftys G) s) (hM : fMem G μ H) (hr : (q, y, h) ∈ frefs) (hc : (fal q).1 = 4) (hin : fin i (fal q).2) (hdg : decode cc pc = .ok (.daload, 1))
    (kk : W p l e R s m args below meth c H locs cells slots Q (F0 m (pc + 1) ls (.double (μ.2.2 q y h i.toNatClampNeg) :: rest))) : W p l e R s m args below meth c H locs cells slots Q (F0 m pc ls (.int i :: .ref (G.1 (q, y, h)) :: rest)) := by
  obtain ⟨j, hj⟩ := fidx hr
  exact va_dald hx hb hK hM.1 j 4 (cA := G.2.2.1 4) (n := (fal q).2) (f := fun j => μ.2.2 q y h j) (by rw [fws_at hj, fcell_a (fal_ge (by omega)), hc]; simp only [facon, hc]) (ftys_at G 4 (by omega)) hin hdg kk
theorem fI51 {μ : fM} {c y h k : Nat} {x : Int32} (hc : c ≠ 51) : ∀ y' j, (fI μ c y h k x).1 51 y' 0 j = μ.1 51 y' 0 j := fun y' j => if_neg (fun q => hc q.1.symm)
theorem fal51 {q n : Nat} (hc : (fal q).1 = n) (hn : n ≠ 9) : q ≠ 51 := by
  rintro rfl
  exact hn (hc.symm.trans (by decide +kernel))
theorem fw_iast {x : Int32} (hx : p.tables.exec = Jvm.exec) (hb : c.code = cc) (hK : va_K G.2.1 fcl (ftys G) s) (hG : fWf G) (hM : fMem G μ H) (hS : va_S (fA G) s.heap H locs) (hr : (q, y, h) ∈ frefs) (hc : (fal q).1 = 0) (hin : fin i (fal q).2) (hdg : decode cc pc = .ok (.iastore, 1))
    (kk : ∀ (H1 : Heap) (locs1 : List Loc), fMem G (fI μ q y h i.toNatClampNeg x) H1 → va_S (fA G) s.heap H1 locs1 → W p l e R s m args below meth c H1 locs1 cells slots Q (F0 m (pc + 1) ls rest)) : W p l e R s m args below meth c H locs cells slots Q (F0 m pc ls (.int x :: .int i :: .ref (G.1 (q, y, h)) :: rest)) := by
  obtain ⟨j, hj⟩ := fidx hr
  obtain ⟨sw, hP, hD, hback⟩ := fMem_open hG hM
  refine va_iast hx hb hK hP hD hS j 0 (cA := G.2.2.1 0) (n := (fal q).2) (f := fun j => μ.1 q y h j) (by rw [fopen_at hj, fcell_a (fal_ge (by omega)), hc]; simp only [facon, hc]) (ftys_at G 0 (by omega)) hin hdg (fun H1 locs1 hP1 hD1 hS1 => kk H1 locs1 (hback _ H1 (fI51 (fal51 hc (by omega))) ?_) hS1)
  rw [fopen_set (μ' := fI μ q y h i.toNatClampNeg x) hj (by rw [fcell_fI_arr (by omega), hc]; try rfl) (fun r' _ hne => fcell_fI_ne hne)] at hP1
  exact hP1
theorem fw_zast {x : Int32} (hx : p.tables.exec = Jvm.exec) (hb : c.code = cc) (hK : va_K G.2.1 fcl (ftys G) s) (hG : fWf G) (hM : fMem G μ H) (hS : va_S (fA G) s.heap H locs) (hr : (q, y, h) ∈ frefs) (hc : (fal q).1 = 1) (hin : fin i (fal q).2) (hdg : decode cc pc = .ok (.bastore, 1))
    (kk : ∀ (H1 : Heap) (locs1 : List Loc), fMem G (fI μ q y h i.toNatClampNeg (fnar 1 x)) H1 → va_S (fA G) s.heap H1 locs1 → W p l e R s m args below meth c H1 locs1 cells slots Q (F0 m (pc + 1) ls rest)) : W p l e R s m args below meth c H locs cells slots Q (F0 m pc ls (.int x :: .int i :: .ref (G.1 (q, y, h)) :: rest)) := by
  obtain ⟨j, hj⟩ := fidx hr
  obtain ⟨sw, hP, hD, hback⟩ := fMem_open hG hM
  refine va_zast hx hb hK hP hD hS j 1 (cA := G.2.2.1 1) (n := (fal q).2) (f := fun j => μ.1 q y h j) (by rw [fopen_at hj, fcell_a (fal_ge (by omega)), hc]; simp only [facon, hc]) (ftys_at G 1 (by omega)) hin hdg (fun H1 locs1 hP1 hD1 hS1 => kk H1 locs1 (hback _ H1 (fI51 (fal51 hc (by omega))) ?_) hS1)
  rw [fopen_set (μ' := fI μ q y h i.toNatClampNeg (fnar 1 x)) hj (by rw [fcell_fI_arr (by omega), hc]; try rfl) (fun r' _ hne => fcell_fI_ne hne)] at hP1
  exact hP1
theorem fw_cast {x : Int32} (hx : p.tables.exec = Jvm.exec) (hb : c.code = cc) (hK : va_K G.2.1 fcl (ftys G) s) (hG : fWf G) (hM : fMem G μ H) (hS : va_S (fA G) s.heap H locs) (hr : (q, y, h) ∈ frefs) (hc : (fal q).1 = 2) (hin : fin i (fal q).2) (hdg : decode cc pc = .ok (.castore, 1))
    (kk : ∀ (H1 : Heap) (locs1 : List Loc), fMem G (fI μ q y h i.toNatClampNeg (fnar 2 x)) H1 → va_S (fA G) s.heap H1 locs1 → W p l e R s m args below meth c H1 locs1 cells slots Q (F0 m (pc + 1) ls rest)) : W p l e R s m args below meth c H locs cells slots Q (F0 m pc ls (.int x :: .int i :: .ref (G.1 (q, y, h)) :: rest)) := by
  obtain ⟨j, hj⟩ := fidx hr
  obtain ⟨sw, hP, hD, hback⟩ := fMem_open hG hM
  refine va_cast hx hb hK hP hD hS j 2 (cA := G.2.2.1 2) (n := (fal q).2) (f := fun j => μ.1 q y h j) (by rw [fopen_at hj, fcell_a (fal_ge (by omega)), hc]; simp only [facon, hc]) (ftys_at G 2 (by omega)) hin hdg (fun H1 locs1 hP1 hD1 hS1 => kk H1 locs1 (hback _ H1 (fI51 (fal51 hc (by omega))) ?_) hS1)
  rw [fopen_set (μ' := fI μ q y h i.toNatClampNeg (fnar 2 x)) hj (by rw [fcell_fI_arr (by omega), hc]; try rfl) (fun r' _ hne => fcell_fI_ne hne)] at hP1
  exact hP1
theorem fw_last {x : Int64} (hx : p.tables.exec = Jvm.exec) (hb : c.code = cc) (hK : va_K G.2.1 fcl (ftys G) s) (hG : fWf G) (hM : fMem G μ H) (hS : va_S (fA G) s.heap H locs) (hr : (q, y, h) ∈ frefs) (hc : (fal q).1 = 3) (hin : fin i (fal q).2) (hdg : decode cc pc = .ok (.lastore, 1))
    (kk : ∀ (H1 : Heap) (locs1 : List Loc), fMem G (fJ μ q y h i.toNatClampNeg x) H1 → va_S (fA G) s.heap H1 locs1 → W p l e R s m args below meth c H1 locs1 cells slots Q (F0 m (pc + 1) ls rest)) : W p l e R s m args below meth c H locs cells slots Q (F0 m pc ls (.long x :: .int i :: .ref (G.1 (q, y, h)) :: rest)) := by
  obtain ⟨j, hj⟩ := fidx hr
  obtain ⟨sw, hP, hD, hback⟩ := fMem_open hG hM
  refine va_last hx hb hK hP hD hS j 3 (cA := G.2.2.1 3) (n := (fal q).2) (f := fun j => μ.2.1 q y h j) (by rw [fopen_at hj, fcell_a (fal_ge (by omega)), hc]; simp only [facon, hc]) (ftys_at G 3 (by omega)) hin hdg (fun H1 locs1 hP1 hD1 hS1 => kk H1 locs1 (hback _ H1 (fun _ _ => rfl) ?_) hS1)
  rw [fopen_set (μ' := fJ μ q y h i.toNatClampNeg x) hj (by rw [fcell_fJ_arr (by omega), hc]; try rfl) (fun r' _ hne => fcell_fJ_ne hne)] at hP1
  exact hP1
theorem fw_dast {x : UInt64} (hx : p.tables.exec = Jvm.exec) (hb : c.code = cc) (hK : va_K G.2.1 fcl (ftys G) s) (hG : fWf G) (hM : fMem G μ H) (hS : va_S (fA G) s.heap H locs) (hr : (q, y, h) ∈ frefs) (hc : (fal q).1 = 4) (hin : fin i (fal q).2) (hdg : decode cc pc = .ok (.dastore, 1))
    (kk : ∀ (H1 : Heap) (locs1 : List Loc), fMem G (fD μ q y h i.toNatClampNeg x) H1 → va_S (fA G) s.heap H1 locs1 → W p l e R s m args below meth c H1 locs1 cells slots Q (F0 m (pc + 1) ls rest)) : W p l e R s m args below meth c H locs cells slots Q (F0 m pc ls (.double x :: .int i :: .ref (G.1 (q, y, h)) :: rest)) := by
  obtain ⟨j, hj⟩ := fidx hr
  obtain ⟨sw, hP, hD, hback⟩ := fMem_open hG hM
  refine va_dast hx hb hK hP hD hS j 4 (cA := G.2.2.1 4) (n := (fal q).2) (f := fun j => μ.2.2 q y h j) (by rw [fopen_at hj, fcell_a (fal_ge (by omega)), hc]; simp only [facon, hc]) (ftys_at G 4 (by omega)) hin hdg (fun H1 locs1 hP1 hD1 hS1 => kk H1 locs1 (hback _ H1 (fun _ _ => rfl) ?_) hS1)
  rw [fopen_set (μ' := fD μ q y h i.toNatClampNeg x) hj (by rw [fcell_fD_arr (by omega), hc]; try rfl) (fun r' _ hne => fcell_fD_ne hne)] at hP1
  exact hP1
end FRW
