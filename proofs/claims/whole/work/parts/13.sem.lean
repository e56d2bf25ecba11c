theorem fE_ret2 {x : Nat → Option fR} {res r : fR} (k : Nat) (h : ∀ n, x (n + k) = some r) (e : r = res) : fEnds x res := ⟨0 + k, by rw [h 0, e]⟩
/-! MORE STEPS CHANGE NO ANSWER; what a table means -/
section FMONO
variable {r : fR}
theorem cond_mono {b : Bool} {A A' B B' : Option fR} (h1 : A = some r → A' = some r) (h2 : B = some r → B' = some r) (h : cond b A B = some r) : cond b A' B' = some r := by
  cases b
  · exact h2 h
  · exact h1 h
theorem ite_mono {c : Prop} {dc : Decidable c} {A A' B B' : Option fR} (h1 : A = some r → A' = some r) (h2 : B = some r → B' = some r) (h : @ite _ c dc A B = some r) : @ite _ c dc A' B' = some r := by
  by_cases hc : c
  · rw [if_pos hc] at h ⊢
    exact h1 h
  · rw [if_neg hc] at h ⊢
    exact h2 h
theorem fload_mono {L : List (Option fV)} {a t : Nat} {f g : fV → Option fR} (hf : ∀ x, f x = some r → g x = some r) (h : fload L a t f = some r) : fload L a t g = some r := by
  unfold fload at h ⊢
  cases hL : L[a]? with
  | none => rw [hL] at h; cases h
  | some w =>
    rw [hL] at h
    cases w with
    | none => cases h
    | some x => exact cond_mono (hf x) (fun h => by cases h) h
theorem fcmp_mono {q : ClassFile.Cond} {x y : Int32} {A A' B B' : Option fR} (h1 : A = some r → A' = some r) (h2 : B = some r → B' = some r) (h : fcmp q x y A B = some r) : fcmp q x y A' B' = some r := by
  cases q
  · exact ite_mono h1 h2 h
  · exact ite_mono h2 h1 h
  · exact ite_mono h1 h2 h
  · exact ite_mono h1 h2 h
  · exact ite_mono h1 h2 h
  · exact ite_mono h1 h2 h
theorem fthrow_mono {E : fE} {pc : Nat} {L : List (Option fV)} {μ : fM} {cc ss x : Nat} {k k' : fK} (hk : ∀ pc L S μ c s, k pc L S μ c s = some r → k' pc L S μ c s = some r) (h : fthrow E pc L μ cc ss x k = some r) : fthrow E pc L μ cc ss x k' = some r := by
  unfold fthrow at h ⊢
  cases hE : E.2.2.1 with
  | nil => rw [hE] at h; exact h
  | cons a b =>
    rw [hE] at h
    simp only at h ⊢
    cases hh : fhand (a :: b) pc x with
    | none => rw [hh] at h; cases h
    | some w =>
      rw [hh] at h
      exact hk _ _ _ _ _ _ h
theorem fcall_mono {E : fE} {a b nx pc : Nat} {L : List (Option fV)} {S : List fV} {μ : fM} {cc ss : Nat} {k k' : fK} (hk : ∀ pc L S μ c s, k pc L S μ c s = some r → k' pc L S μ c s = some r) (h : fcall E a b nx pc L S μ cc ss k = some r) : fcall E a b nx pc L S μ cc ss k' = some r := by
  unfold fcall at h ⊢
  cases hE : E.1[a]? with
  | none => rw [hE] at h; cases h
  | some f =>
    rw [hE] at h
    simp only at h ⊢
    refine cond_mono (fun h => ?_) (fun h => h) h
    cases hq : f.1 (S.take b).reverse μ with
    | none => rw [hq] at h; cases h
    | some x =>
      rw [hq] at h
      obtain ⟨x1, x2⟩ := x
      cases x1 with
      | inl v => exact hk _ _ _ _ _ _ h
      | inr v => exact fthrow_mono hk h
set_option maxHeartbeats 4000000 in
theorem fstep_mono {E : fE} {o : fO} {pc : Nat} {L : List (Option fV)} {S : List fV} {μ : fM} {cc ss : Nat} {k k' : fK} (hk : ∀ pc L S μ c s, k pc L S μ c s = some r → k' pc L S μ c s = some r) (h : fstep E o pc L S μ cc ss k = some r) : fstep E o pc L S μ cc ss k' = some r := by
  obtain ⟨ins, nx, a, b, v, ts⟩ := o
  obtain ⟨env, mm, hs, scr⟩ := E
  cases ins
  all_goals simp only [fstep] at h ⊢
  all_goals first
    | exact hk _ _ _ _ _ _ h
    | exact fload_mono (fun x => hk _ _ _ _ _ _) h
    | exact fcall_mono hk h
    | exact cond_mono (hk _ _ _ _ _ _) (hk _ _ _ _ _ _) h
    | exact cond_mono (hk _ _ _ _ _ _) (fun h => h) h
    | cases h
    | skip
  all_goals try (cases hl : L[a]? with
    | none => rw [hl] at h; cases h
    | some w =>
      rw [hl] at h
      rcases w with _ | (_ | _ | _ | _)
      all_goals first
        | exact hk _ _ _ _ _ _ h
        | cases h)
  all_goals (split at h)
  all_goals first
    | exact h
    | cases h
    | exact hk _ _ _ _ _ _ h
    | exact fcmp_mono (hk _ _ _ _ _ _) (hk _ _ _ _ _ _) h
    | exact ite_mono (hk _ _ _ _ _ _) (hk _ _ _ _ _ _) h
    | exact ite_mono (hk _ _ _ _ _ _) (fun h => h) h
    | exact ite_mono (fun h => h) (hk _ _ _ _ _ _) h
    | exact cond_mono (hk _ _ _ _ _ _) (fun h => h) h
    | exact cond_mono (ite_mono (hk _ _ _ _ _ _) (fun h => h)) (fun h => h) h
    | skip
  all_goals (first
    | (refine cond_mono (fun h => ?_) (fun h => h) h
       split at h
       all_goals first
         | exact h
         | cases h
         | exact hk _ _ _ _ _ _ h
         | exact ite_mono (hk _ _ _ _ _ _) (fun h => h) h)
    | (refine cond_mono (fun h => ?_) (fun h => cond_mono (ite_mono (hk _ _ _ _ _ _) (fun h => h)) (fun h => h) h) h
       split at h
       all_goals first
         | exact h
         | cases h
         | exact ite_mono (hk _ _ _ _ _ _) (fun h => h) h))
theorem frun_succ {E : fE} {t : fTb} : ∀ (n : Nat) {pc : Nat} {L : List (Option fV)} {S : List fV} {μ : fM} {cc ss : Nat}, frun E t n pc L S μ cc ss = some r → frun E t (n + 1) pc L S μ cc ss = some r
  | 0, _, _, _, _, _, _, h => by cases h
  | n + 1, pc, L, S, μ, cc, ss, h => by
    unfold frun at h ⊢
    cases ho : flk t pc with
    | none => rw [ho] at h; cases h
    | some o =>
      rw [ho] at h
      exact fstep_mono (fun _ _ _ _ _ _ h => frun_succ n h) h
theorem frun_add {E : fE} {t : fTb} {n : Nat} (j : Nat) {pc : Nat} {L : List (Option fV)} {S : List fV} {μ : fM} {cc ss : Nat} (h : frun E t n pc L S μ cc ss = some r) : frun E t (n + j) pc L S μ cc ss = some r := by
  induction j with
  | zero => exact h
  | succ j ih => exact frun_succ _ ih
end FMONO
theorem frun_one {E : fE} {t : fTb} {pc : Nat} {L : List (Option fV)} {S : List fV} {μ : fM} {cc ss : Nat} {r r' : fR} (h : fEnds (fun n => frun E t n pc L S μ cc ss) r) (h' : fEnds (fun n => frun E t n pc L S μ cc ss) r') : r = r' := by
  obtain ⟨n, hn⟩ := h
  obtain ⟨n', hn'⟩ := h'
  have e1 := frun_add n' hn
  have e2 := frun_add n hn'
  rw [Nat.add_comm] at e2
  exact Option.some.inj (e1.symm.trans e2)
/-- what a table of code means, as a function -/
noncomputable def fsem (E : fE) (t : fTb) (nL : Nat) : fS := fun a μ => @dite _ ((fargs a).length ≤ nL ∧ ∃ res, fEnds (fun n => frun E t n 0 (fentry a nL) [] μ 0 0) res) (Classical.propDecidable _) (fun h => some (Classical.choose h.2)) (fun _ => none)
/-- .. of a method of objects of kind kd -/
noncomputable def fsemV (kd : Nat) (E : fE) (t : fTb) (nL : Nat) : fS := fun a μ => match a with
  | .inl (c, y, h) :: r => bif Nat.beq c kd then fsem E t nL (.inl (c, y, h) :: r) μ else none
  | _ => none
theorem fsem_of {E : fE} {t : fTb} {nL : Nat} {a : List fV} {μ : fM} {res : fR} (h1 : (fargs a).length ≤ nL) (h2 : fEnds (fun n => frun E t n 0 (fentry a nL) [] μ 0 0) res) : fsem E t nL a μ = some res := by
  unfold fsem
  have h : (fargs a).length ≤ nL ∧ ∃ res, fEnds (fun n => frun E t n 0 (fentry a nL) [] μ 0 0) res := ⟨h1, res, h2⟩
  rw [dif_pos h]
  exact congrArg some (frun_one (Classical.choose_spec h.2) h2)
theorem fsem_to {E : fE} {t : fTb} {nL : Nat} {a : List fV} {μ : fM} {res : fR} (h : fsem E t nL a μ = some res) : (fargs a).length ≤ nL ∧ fEnds (fun n => frun E t n 0 (fentry a nL) [] μ 0 0) res := by
  unfold fsem at h
  by_cases hc : (fargs a).length ≤ nL ∧ ∃ res, fEnds (fun n => frun E t n 0 (fentry a nL) [] μ 0 0) res
  · rw [dif_pos hc] at h
    cases h
    exact ⟨hc.1, Classical.choose_spec hc.2⟩
  · rw [dif_neg hc] at h
    cases h
theorem fsemV_of {kd : Nat} {E : fE} {t : fTb} {nL y h : Nat} {r : List fV} {μ : fM} {res : fR} (h1 : (fargs (vR kd y h :: r)).length ≤ nL) (h2 : fEnds (fun n => frun E t n 0 (fentry (vR kd y h :: r) nL) [] μ 0 0) res) : fsemV kd E t nL (vR kd y h :: r) μ = some res := by
  unfold fsemV
  simp only [Nat.beq_refl, cond_true]
  exact fsem_of h1 h2
theorem fsemV_to {kd : Nat} {E : fE} {t : fTb} {nL : Nat} {a : List fV} {μ : fM} {res : fR} (h : fsemV kd E t nL a μ = some res) : fsem E t nL a μ = some res ∧ ∃ y h r, a = .inl (kd, y, h) :: r := by
  unfold fsemV at h
  split at h
  · rename_i c y h' r
    cases hb : Nat.beq c kd <;> rw [hb] at h
    · cases h
    · have := Nat.eq_of_beq_eq_true hb
      subst this
      exact ⟨h, y, h', r, rfl⟩
  · cases h
