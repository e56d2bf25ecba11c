/-! THE BUILDER: constructors over cells by their places: cell k of the list lies at the address z + k -/
abbrev bE : Type := (Nat × List (Option fV)) ⊕ (Nat × Nat × List (Nat × fV))
abbrev bWs : Type := List bE
abbrev bK : Type := Nat → List (Option fV) → List fV → bWs → Nat → Nat → Option bWs
/-- callees: class of the object, arguments, what is left, cells, slots; own bounds -/
abbrev bX : Type := List (Nat × List fV × bWs × Nat × Nat) × Nat × Nat
abbrev bR (k : Nat) : fV := vR 60 k 0
def blk : List (Nat × fV) → Nat → Option fV
  | [], _ => none
  | q :: r, j => bif Nat.beq q.1 j then some q.2 else blk r j
def bnum (l : List (Nat × fV)) (j : Nat) : Int32 := match blk l j with
  | some (.inr (.inl x)) => x
  | _ => 0
def bref (l : List (Nat × fV)) (j : Nat) : Option Nat := match blk l j with
  | some (.inl r) => some r.2.1
  | _ => none
/-- what a fresh field holds, by its code: 0 int, 1 boolean, 2 long, 3 reference, 4 byte -/
def bnull (n : Nat) : Option fV := match n with
  | 2 => some (vL 0)
  | 3 => none
  | _ => some (vI 0)
def bkf (c : Nat) : List Nat := bif Nat.beq c 9 then [3, 4, 1, 0] else fkfL.getD c []
def binit (c : Nat) : List (Option fV) := (bkf c).map bnull
def bsh (i : Nat) (v : fV) : fV := match v with
  | .inl r => .inl (r.1, i + r.2.1, r.2.2)
  | x => x
def bshE (i : Nat) : bE → bE
  | .inl q => .inl (q.1, q.2.map (Option.map (bsh i)))
  | .inr q => .inr (q.1, q.2.1, q.2.2.map (fun x => (x.1, bsh i x.2)))
def beqV (x y : fV) : Bool := match x, y with
  | .inl a, .inl b => Nat.beq a.1 b.1 && (Nat.beq a.2.1 b.2.1 && Nat.beq a.2.2 b.2.2)
  | .inr (.inl a), .inr (.inl b) => decide (a = b)
  | .inr (.inr (.inl a)), .inr (.inr (.inl b)) => decide (a = b)
  | .inr (.inr (.inr a)), .inr (.inr (.inr b)) => decide (a = b)
  | _, _ => false
def beqVs : List fV → List fV → Bool
  | [], [] => true
  | a :: r, b :: t => beqV a b && beqVs r t
  | _, _ => false
def beqO (x y : Option fV) : Bool := match x, y with
  | none, none => true
  | some a, some b => beqV a b
  | _, _ => false
def beqF : List (Option fV) → List (Option fV) → Bool
  | [], [] => true
  | a :: r, b :: t => beqO a b && beqF r t
  | _, _ => false
def beqL : List (Nat × fV) → List (Nat × fV) → Bool
  | [], [] => true
  | a :: r, b :: t => (Nat.beq a.1 b.1 && beqV a.2 b.2) && beqL r t
  | _, _ => false
def beqE (x y : bE) : Bool := match x, y with
  | .inl a, .inl b => Nat.beq a.1 b.1 && beqF a.2 b.2
  | .inr a, .inr b => Nat.beq a.1 b.1 && (Nat.beq a.2.1 b.2.1 && beqL a.2.2 b.2.2)
  | _, _ => false
def beqW : bWs → bWs → Bool
  | [], [] => true
  | a :: r, b :: t => beqE a b && beqW r t
  | _, _ => false
def beqOW (x : Option bWs) (y : bWs) : Bool := match x with
  | some a => beqW a y
  | none => false
def bisE (x : Option bE) (y : bE) : Bool := match x with
  | some a => beqE a y
  | none => false
theorem beqV_ok {x y : fV} (h : beqV x y = true) : x = y := by
  rcases x with x | x | x | x <;> rcases y with y | y | y | y <;> simp only [beqV, Bool.and_eq_true, decide_eq_true_eq] at h <;> first | (cases h; done) | (cases h; rfl) | skip
  · obtain ⟨h1, h2, h3⟩ := h
    obtain ⟨a, b, c⟩ := x
    obtain ⟨a', b', c'⟩ := y
    have e1 := Nat.eq_of_beq_eq_true h1
    have e2 := Nat.eq_of_beq_eq_true h2
    have e3 := Nat.eq_of_beq_eq_true h3
    simp only at e1 e2 e3
    rw [e1, e2, e3]
theorem beqVs_ok : ∀ {x y : List fV}, beqVs x y = true → x = y
  | [], [], _ => rfl
  | a :: r, b :: t, h => by
    simp only [beqVs, Bool.and_eq_true] at h
    rw [beqV_ok h.1, beqVs_ok h.2]
  | [], _ :: _, h => by cases h
  | _ :: _, [], h => by cases h
theorem beqO_ok {x y : Option fV} (h : beqO x y = true) : x = y := by
  cases x <;> cases y <;> first | rfl | cases h | skip
  exact congrArg some (beqV_ok h)
theorem beqF_ok : ∀ {x y : List (Option fV)}, beqF x y = true → x = y
  | [], [], _ => rfl
  | a :: r, b :: t, h => by
    simp only [beqF, Bool.and_eq_true] at h
    rw [beqO_ok h.1, beqF_ok h.2]
  | [], _ :: _, h => by cases h
  | _ :: _, [], h => by cases h
theorem beqL_ok : ∀ {x y : List (Nat × fV)}, beqL x y = true → x = y
  | [], [], _ => rfl
  | a :: r, b :: t, h => by
    simp only [beqL, Bool.and_eq_true] at h
    have e : a = b := Prod.ext (Nat.eq_of_beq_eq_true h.1.1) (beqV_ok h.1.2)
    rw [e, beqL_ok h.2]
  | [], _ :: _, h => by cases h
  | _ :: _, [], h => by cases h
theorem beqE_ok {x y : bE} (h : beqE x y = true) : x = y := by
  rcases x with x | x <;> rcases y with y | y <;> simp only [beqE, Bool.and_eq_true] at h <;> first | (cases h; done) | skip
  · exact congrArg Sum.inl (Prod.ext (Nat.eq_of_beq_eq_true h.1) (beqF_ok h.2))
  · exact congrArg Sum.inr (Prod.ext (Nat.eq_of_beq_eq_true h.1) (Prod.ext (Nat.eq_of_beq_eq_true h.2.1) (beqL_ok h.2.2)))
theorem beqW_ok : ∀ {x y : bWs}, beqW x y = true → x = y
  | [], [], _ => rfl
  | a :: r, b :: t, h => by
    simp only [beqW, Bool.and_eq_true] at h
    rw [beqE_ok h.1, beqW_ok h.2]
  | [], _ :: _, h => by cases h
  | _ :: _, [], h => by cases h
theorem beqOW_ok {x : Option bWs} {y : bWs} (h : beqOW x y = true) : x = some y := by
  cases x with
  | none => cases h
  | some a => exact congrArg some (beqW_ok h)
theorem bisE_ok {x : Option bE} {y : bE} (h : bisE x y = true) : x = some y := by
  cases x with
  | none => cases h
  | some a => exact congrArg some (beqE_ok h)
theorem blk_cons {q : Nat × fV} {r : List (Nat × fV)} {j : Nat} : blk (q :: r) j = bif Nat.beq q.1 j then some q.2 else blk r j := rfl
def bload (L : List (Option fV)) (a t : Nat) (k : fV → Option bWs) : Option bWs := match L[a]? with
  | some (some v) => bif Nat.beq (ftag v) t then k v else none
  | _ => none
def bcmp (q : ClassFile.Cond) (x y : Int32) (k1 k2 : Option bWs) : Option bWs := match q with
  | .ge => if y ≤ x then k1 else k2
  | .gt => if y < x then k1 else k2
  | .eq => if x = y then k1 else k2
  | _ => none
def bstep (E : bX) (o : fO) (L : List (Option fV)) (S : List fV) (w : bWs) (cc ss : Nat) (k : bK) : Option bWs := match o with
  | (ins, nx, a, b, v, _) => match ins with
    | .iconst _ => k nx L (vI v :: S) w cc ss
    | .bipush _ => k nx L (vI v :: S) w cc ss
    | .sipush _ => k nx L (vI v :: S) w cc ss
    | .getstatic _ => k nx L (vI 1 :: S) w cc ss
    | .iload_n _ => bload L a 1 fun x => k nx L (x :: S) w cc ss
    | .aload_n _ => bload L a 0 fun x => k nx L (x :: S) w cc ss
    | .istore_n _ => match S with
      | .inr (.inl x) :: S => k nx (fput1 L a (some (vI x))) S w cc ss
      | _ => none
    | .iinc _ _ => match L[a]? with
      | some (some (.inr (.inl x))) => k nx (fput1 L a (some (vI (x + v)))) S w cc ss
      | _ => none
    | .iadd => match S with
      | .inr (.inl y) :: .inr (.inl x) :: S => k nx L (vI (x + y) :: S) w cc ss
      | _ => none
    | .isub => match S with
      | .inr (.inl y) :: .inr (.inl x) :: S => k nx L (vI (x - y) :: S) w cc ss
      | _ => none
    | .imul => match S with
      | .inr (.inl y) :: .inr (.inl x) :: S => k nx L (vI (x * y) :: S) w cc ss
      | _ => none
    | .dup => match S with
      | x :: S => bif Nat.ble (ftag x) 1 then k nx L (x :: x :: S) w cc ss else none
      | _ => none
    | .if_icmp q _ => match S with
      | .inr (.inl y) :: .inr (.inl x) :: S => bcmp q x y (k a L S w cc ss) (k nx L S w cc ss)
      | _ => none
    | .ifCond q _ => match S with
      | .inr (.inl x) :: S => bcmp q x 0 (k a L S w cc ss) (k nx L S w cc ss)
      | _ => none
    | .goto _ => k a L S w cc ss
    | .getfield _ => match S with
      | .inl (_, i, _) :: S => match w[i]? with
        | some (.inl (c0, fs)) => bif Nat.beq c0 a then (match fs[b]? with
            | some (some (.inl r)) => k nx L (.inl r :: S) w cc ss
            | _ => none) else none
        | _ => none
      | _ => none
    | .putfield _ => match S with
      | .inr (.inl x) :: .inl (_, i, _) :: S => match w[i]? with
        | some (.inl (c0, fs)) => if c0 = a ∧ b < fs.length ∧ ((bkf a).getD b 9 = 0 ∨ ((bkf a).getD b 9 = 4 ∧ x = 0)) then k nx L S (w.set i (.inl (c0, fs.set b (some (vI x))))) cc ss else none
        | _ => none
      | .inl r :: .inl (_, i, _) :: S => match w[i]? with
        | some (.inl (c0, fs)) => if c0 = a ∧ b < fs.length ∧ (bkf a).getD b 9 = 3 then k nx L S (w.set i (.inl (c0, fs.set b (some (.inl r))))) cc ss else none
        | _ => none
      | _ => none
    | .new _ => bif Nat.ble (cc + 1) E.2.1 && Nat.ble (ss + (bkf a).length) E.2.2 then k nx L (bR w.length :: S) (w ++ [.inl (a, binit a)]) (cc + 1) (ss + (bkf a).length) else none
    | .newarray _ => match S with
      | .inr (.inl n) :: S => if n < 0 ∨ 5000 < n.toNatClampNeg then none else (bif Nat.ble (cc + 1) E.2.1 && Nat.ble (ss + n.toNatClampNeg) E.2.2 then k nx L (bR w.length :: S) (w ++ [.inr (a, n.toNatClampNeg, [])]) (cc + 1) (ss + n.toNatClampNeg) else none)
      | _ => none
    | .anewarray _ => match S with
      | .inr (.inl n) :: S => if n < 0 ∨ 5000 < n.toNatClampNeg then none else (bif Nat.ble (cc + 1) E.2.1 && Nat.ble (ss + n.toNatClampNeg) E.2.2 then k nx L (bR w.length :: S) (w ++ [.inr (a, n.toNatClampNeg, [])]) (cc + 1) (ss + n.toNatClampNeg) else none)
      | _ => none
    | .multianewarray _ _ => match S with
      | .inr (.inl m) :: .inr (.inl n) :: S => if n < 0 ∨ 5000 < n.toNatClampNeg ∨ m < 0 ∨ 5000 < m.toNatClampNeg then none else (bif Nat.ble (cc + (1 + n.toNatClampNeg)) E.2.1 && Nat.ble (ss + (n.toNatClampNeg + n.toNatClampNeg * m.toNatClampNeg)) E.2.2 then
          k nx L (bR w.length :: S) (w ++ (.inr (7, n.toNatClampNeg, (List.range n.toNatClampNeg).map (fun i => (i, bR (w.length + 1 + i)))) :: List.replicate n.toNatClampNeg (.inr (0, m.toNatClampNeg, [])))) (cc + (1 + n.toNatClampNeg)) (ss + (n.toNatClampNeg + n.toNatClampNeg * m.toNatClampNeg)) else none)
      | _ => none
    | .aastore => match S with
      | .inl (_, j, _) :: .inr (.inl i) :: .inl (_, q, _) :: S => match w[q]? with
        | some (.inr (t, n, l)) => match w[j]? with
          | some (.inl (c0, _)) => if (t = 5 ∧ c0 = 1 ∨ t = 6 ∧ c0 = 6) ∧ fin i n then k nx L S (w.set q (.inr (t, n, (i.toNatClampNeg, bR j) :: l))) cc ss else none
          | _ => none
        | _ => none
      | _ => none
    | .iastore => match S with
      | .inr (.inl x) :: .inr (.inl i) :: .inl (_, q, _) :: S => match w[q]? with
        | some (.inr (t, n, l)) => if t = 0 ∧ fin i n then k nx L S (w.set q (.inr (t, n, (i.toNatClampNeg, vI x) :: l))) cc ss else none
        | _ => none
      | _ => none
    | .castore => match S with
      | .inr (.inl x) :: .inr (.inl i) :: .inl (_, q, _) :: S => match w[q]? with
        | some (.inr (t, n, l)) => if t = 2 ∧ fin i n then k nx L S (w.set q (.inr (t, n, (i.toNatClampNeg, vI (fnar 2 x)) :: l))) cc ss else none
        | _ => none
      | _ => none
    | .invokespecial _ => bif Nat.beq a 0 then (match S with
        | .inl _ :: S => bif Nat.ble (fcats S) 8 then k nx L S w cc ss else none
        | _ => none)
      else (match E.1[a - 1]? with
        | some f => match S.drop f.2.1.length with
          | .inl (_, i, _) :: S2 => bif beqVs (S.take f.2.1.length).reverse f.2.1 && (Nat.beq (i + 1) w.length && bisE w[i]? (.inl (f.1, binit f.1))) then (bif Nat.ble (cc + f.2.2.2.1) E.2.1 && (Nat.ble (ss + f.2.2.2.2) E.2.2 && Nat.ble (fcats S2) 8) then k nx L S2 (w.take i ++ f.2.2.1.map (bshE i)) (cc + f.2.2.2.1) (ss + f.2.2.2.2) else none) else none
          | _ => none
        | _ => none)
    | .invokestatic _ => match S with
      | .inr (.inl y) :: .inr (.inl x) :: S => bif Nat.ble (fcats S) 8 then k nx L (vI (if y < x then y else x) :: S) w cc ss else none
      | _ => none
    | .return_ => match S with
      | [] => some w
      | _ => none
    | _ => none
def brun (E : bX) (t : fTb) : Nat → bK
  | 0 => fun _ _ _ _ _ _ => none
  | n + 1 => fun pc L S w cc ss => match flk t pc with
    | none => none
    | some o => bstep E o L S w cc ss (brun E t n)
/-! what the cells are in the heap -/
abbrev gBz (G : fG) (z : Nat) : fG := (fun r => z + r.2.1, G.2)
def bval (G : fG) (z : Nat) : Option fV → Value
  | none => .null
  | some v => ftv (gBz G z) v
def bcon (z t : Nat) (l : List (Nat × fV)) : (Nat → Int32) ⊕ (Nat → Int64) ⊕ (Nat → UInt32) ⊕ (Nat → UInt64) ⊕ (Nat → Option Nat) := match t with
  | 3 => .inr (.inl (fun _ => 0))
  | 4 => .inr (.inr (.inr (.inl (fun _ => 0))))
  | 5 => .inr (.inr (.inr (.inr (fun j => (bref l j).map (fun i => z + i)))))
  | 6 => .inr (.inr (.inr (.inr (fun j => (bref l j).map (fun i => z + i)))))
  | 7 => .inr (.inr (.inr (.inr (fun j => (bref l j).map (fun i => z + i)))))
  | _ => .inl (fun j => bnum l j)
def bcell (G : fG) (z : Nat) : bE → va_E
  | .inl q => .inr (q.1, q.2.map (bval G z))
  | .inr q => .inl (G.2.2.1 q.1, q.2.1, bcon z q.1 q.2.2)
def bws (G : fG) (z : Nat) (w : bWs) : va_W := w.mapIdx (fun i e => (z + i, bcell G z e))
abbrev bA (z : Nat) : Nat → Prop := fun q => z ≤ q
def bM (G : fG) (z : Nat) (w : bWs) (H : Heap) : Prop := H.size = z + w.length ∧ va_P G.2.1 fcl (bws G z w) H
theorem bws_at {G : fG} {z i : Nat} {w : bWs} {e : bE} (h : w[i]? = some e) : (bws G z w)[i]? = some (z + i, bcell G z e) := by
  simp [bws, h]
theorem bM_at {G : fG} {z i : Nat} {w : bWs} {e : bE} {H : Heap} (h : bM G z w H) (he : w[i]? = some e) : va_at G.2.1 fcl (z + i, bcell G z e) H := h.2 i _ (bws_at he)
theorem bM_of {G : fG} {z : Nat} {w : bWs} {H : Heap} (h1 : H.size = z + w.length) (h2 : ∀ i e, w[i]? = some e → va_at G.2.1 fcl (z + i, bcell G z e) H) : bM G z w H := by
  refine ⟨h1, fun k q hk => ?_⟩
  simp only [bws, List.getElem?_mapIdx, Option.map_eq_some_iff] at hk
  obtain ⟨e, he, rfl⟩ := hk
  exact h2 k e he
theorem bM_set {G : fG} {z i : Nat} {w : bWs} {e : bE} {H H1 : Heap} (h : bM G z w H) (hi : i < w.length) (hz : H1.size = H.size) (ho : ∀ q : Nat, q ≠ z + i → H1[q]? = H[q]?) (he : va_at G.2.1 fcl (z + i, bcell G z e) H1) : bM G z (w.set i e) H1 := by
  refine bM_of (by rw [hz, h.1, List.length_set]) (fun j x hj => ?_)
  rw [List.getElem?_set] at hj
  by_cases hij : i = j
  · subst hij
    rw [if_pos rfl, if_pos hi] at hj
    cases hj
    exact he
  · rw [if_neg hij] at hj
    exact (bM_at h hj).kept (ho _ (by show z + j ≠ z + i; omega))
theorem bM_push {G : fG} {z : Nat} {w : bWs} {e : bE} {H H1 : Heap} (h : bM G z w H) (hz : H1.size = H.size + 1) (ho : ∀ q : Nat, q < H.size → H1[q]? = H[q]?) (he : va_at G.2.1 fcl (z + w.length, bcell G z e) H1) : bM G z (w ++ [e]) H1 := by
  refine bM_of (by rw [hz, h.1, List.length_append]; rfl) (fun j x hj => ?_)
  by_cases hl : j < w.length
  · rw [List.getElem?_append_left hl] at hj
    exact (bM_at h hj).kept (ho _ (by rw [h.1]; show z + j < _; omega))
  · rw [List.getElem?_append_right (by omega)] at hj
    have hj1 : j - w.length < 1 := (List.getElem?_eq_some_iff.mp hj).1
    have hj2 : j = w.length := by omega
    subst hj2
    simp at hj
    subst hj
    exact he
/-- what a callee left, among the caller's cells -/
theorem bval_sh {G : fG} {z i : Nat} {x : Option fV} : bval G z (x.map (bsh i)) = bval G (z + i) x := by
  rcases x with _ | (r | x | x | x) <;> first | rfl | skip
  show Value.ref (z + (i + r.2.1)) = Value.ref (z + i + r.2.1)
  rw [Nat.add_assoc]
theorem blk_sh {i j : Nat} : ∀ l : List (Nat × fV), blk (l.map (fun x => (x.1, bsh i x.2))) j = (blk l j).map (bsh i)
  | [] => rfl
  | q :: r => by
    unfold blk
    cases h : Nat.beq q.1 j
    · simp only [List.map_cons, h, cond_false]
      exact blk_sh r
    · simp only [List.map_cons, h, cond_true]
      rfl
theorem bint_sh {i j : Nat} {l : List (Nat × fV)} : bnum (l.map (fun x => (x.1, bsh i x.2))) j = bnum l j := by
  unfold bnum
  rw [blk_sh]
  rcases blk l j with _ | (r | x | x | x) <;> rfl
theorem bref_sh {i j z : Nat} {l : List (Nat × fV)} : (bref (l.map (fun x => (x.1, bsh i x.2))) j).map (fun k => z + k) = (bref l j).map (fun k => z + i + k) := by
  unfold bref
  rw [blk_sh]
  rcases blk l j with _ | (r | x | x | x) <;> first | rfl | skip
  show some (z + (i + r.2.1)) = some (z + i + r.2.1)
  rw [Nat.add_assoc]
theorem bcon_sh {i z t : Nat} {l : List (Nat × fV)} : bcon z t (l.map (fun x => (x.1, bsh i x.2))) = bcon (z + i) t l := by
  unfold bcon
  simp only [bint_sh, bref_sh]
theorem bcell_sh {G : fG} {z i : Nat} : ∀ e : bE, bcell G z (bshE i e) = bcell G (z + i) e
  | .inl q => by
    show (Sum.inr (q.1, (q.2.map (Option.map (bsh i))).map (bval G z)) : va_E) = Sum.inr (q.1, q.2.map (bval G (z + i)))
    rw [List.map_map]
    congr 2
    exact List.map_congr_left fun x _ => bval_sh
  | .inr q => by
    show (Sum.inl (G.2.2.1 q.1, q.2.1, bcon z q.1 (q.2.2.map (fun x => (x.1, bsh i x.2)))) : va_E) = Sum.inl (G.2.2.1 q.1, q.2.1, bcon (z + i) q.1 q.2.2)
    rw [bcon_sh]

theorem bM_call {G : fG} {z i : Nat} {w o : bWs} {H H1 : Heap} (h : bM G z w H) (hi : i + 1 = w.length) (ho : ∀ q : Nat, q < H.size → ¬ z + i ≤ q → H1[q]? = H[q]?) (h1 : bM G (z + i) o H1) : bM G z (w.take i ++ o.map (bshE i)) H1 := by
  have ht : (w.take i).length = i := by rw [List.length_take]; omega
  refine bM_of (by rw [h1.1, List.length_append, List.length_map, ht]; omega) (fun j x hj => ?_)
  by_cases hl : j < i
  · rw [List.getElem?_append_left (by omega), List.getElem?_take_of_lt hl] at hj
    exact (bM_at h hj).kept (ho _ (by rw [h.1]; show z + j < _; omega) (by show ¬ z + i ≤ z + j; omega))
  · rw [List.getElem?_append_right (by omega), ht, List.getElem?_map, Option.map_eq_some_iff] at hj
    obtain ⟨y, hy, rfl⟩ := hj
    have := bM_at h1 hy
    rw [bcell_sh]
    rw [show z + j = z + i + (j - i) by omega]
    exact this
/-! CONTRACTS of constructors -/
def bPc (G : fG) (z c : Nat) (As : List fV) : Array Value → State → Prop := fun v U => v = ((bR 0 :: As).map (ftv (gBz G z))).toArray ∧ bM G z [.inl (c, binit c)] U.heap ∧ fPre G U
def bQ (G : fG) (z : Nat) (o : bWs) : Array Value → State → Outcome → State → Prop := fun _ st oc t => oc = .returned none ∧ bM G z o t.heap ∧ va_F (bA z) st t
def bCT (G : fG) (l : Launch) (y : MethodName) (ws : List Jvm.Cond) (rm : Room) (c : Nat) (As : List fV) (o : bWs) : Prop := ∀ z, G.2.2.2 ≤ z → Met l y ws rm (bPc G z c As) (bQ G z o) rm.cells rm.slots (bA z)
def bCx (G : fG) (z : Nat) (p : Program) (l : Launch) (s : State) (m : MethodId) (args : Array Value) (meth : Method) (c : Code) (cc : ByteArray) (own : String) (nL : Nat) : Prop :=
  p.tables.exec = Jvm.exec ∧ c.code = cc ∧ c.maxLocals = nL ∧ s.vm.findClass own = some m.cls ∧ (∀ w ∈ fT, w.before args s = true) ∧ meth.locks = false ∧ fPre G s ∧ G.2.2.2 ≤ z ∧ z ≤ s.heap.size
/-- a constructor's call, taken by the machine -/
def bCS (G : fG) (l : Launch) (own : String) (cc : ByteArray) (nL : Nat) (R : Room) (ix : Nat) (f : Nat × List fV × bWs × Nat × Nat) : Prop :=
  ∀ (p : Program) (e : Env) (s : State) (m : MethodId) (args : Array Value) (below : List Frame) (meth : Method) (c : Code) (z : Nat) (H : Heap) (locs : List Loc) (cells slots : Nat) (Q : State → Prop) (pc : Nat) (ls : Array Slot), bCx G z p l s m args meth c cc own nL → decode cc pc = .ok (.invokespecial ix, 3) → ls.size = nL →
  ∀ (rest : List fV) (i : Nat) (w : bWs), i + 1 = w.length → w[i]? = some (.inl (f.1, binit f.1)) → fcats rest ≤ 8 → bM G z w H → va_S (bA z) s.heap H locs → cells + f.2.2.2.1 ≤ R.cells → slots + f.2.2.2.2 ≤ R.slots →
  (∀ (H1 : Heap) (locs1 : List Loc), bM G z (w.take i ++ f.2.2.1.map (bshE i)) H1 → va_S (bA z) s.heap H1 locs1 → W p l e R s m args below meth c H1 locs1 (cells + f.2.2.2.1) (slots + f.2.2.2.2) Q (F0 m (pc + 3) ls (rest.map (ftv (gBz G z))))) →
  W p l e R s m args below meth c H locs cells slots Q (F0 m pc ls ((f.2.1.reverse ++ bR i :: rest).map (ftv (gBz G z))))
/-- object's constructor, Math.min, field links, calls, classes, arrays of references, the two-dimensional array -/
abbrev bZ : Type := Nat × Nat × List (Nat × Nat × Nat × Nat) × List (Nat × Nat) × List (Nat × Nat) × List (Nat × Nat) × Nat
def bok (own : String) (nL : Nat) (Z : bZ) (pc : Nat) (ln : Nat) (o : fO) : Bool := match o with
  | (ins, nx, a, b, v, _) => match ins with
    | .iconst n => decide (ln = 1) && (decide (nx = pc + 1) && decide (v = Int32.ofInt n))
    | .bipush n => decide (ln = 2) && (decide (nx = pc + 2) && decide (v = (Int8.ofInt n).toInt32))
    | .sipush n => decide (ln = 3) && (decide (nx = pc + 3) && decide (v = (Int16.ofInt n).toInt32))
    | .getstatic x => decide (ln = 3) && (decide (nx = pc + 3) && (decide (x = 18) && decide (own = "java/lang/AbstractStringBuilder")))
    | .iload_n i => decide (ln = 1) && (decide (nx = pc + 1) && decide (a = (i : Nat)))
    | .aload_n i => decide (ln = 1) && (decide (nx = pc + 1) && decide (a = (i : Nat)))
    | .istore_n i => decide (ln = 1) && (decide (nx = pc + 1) && (decide (a = (i : Nat)) && decide (a < nL)))
    | .iinc i n => decide (ln = 3) && (decide (nx = pc + 3) && (decide (a = i) && (decide (v = Int32.ofInt n) && decide (a < nL))))
    | .if_icmp _ off => decide (ln = 3) && (decide (nx = pc + 3) && decide ((pc : Int) + off = (a : Int)))
    | .ifCond _ off => decide (ln = 3) && (decide (nx = pc + 3) && decide ((pc : Int) + off = (a : Int)))
    | .goto off => decide (ln = 3) && decide ((pc : Int) + off = (a : Int))
    | .getfield x => decide (ln = 3) && (decide (nx = pc + 3) && (Z.2.2.1.any (fun q => decide (q.1 = x) && (decide (q.2.1 = a) && decide (q.2.2.1 = b))) && (decide (a < 10) && decide (b < (bkf a).length))))
    | .putfield x => decide (ln = 3) && (decide (nx = pc + 3) && (Z.2.2.1.any (fun q => decide (q.1 = x) && (decide (q.2.1 = a) && decide (q.2.2.1 = b))) && (decide (a < 10) && (decide (b < (bkf a).length) && (decide (((fct a).2.1 b).2.2.2 = false) || decide (((fct a).2.1 b).1 = own))))))
    | .new x => decide (ln = 3) && (decide (nx = pc + 3) && decide ((x, a) ∈ Z.2.2.2.2.1))
    | .newarray t => decide (ln = 2) && (decide (nx = pc + 2) && (decide (a < 5 ∨ a = 8) && decide (newarray.typeOf t = fty.getD a .int)))
    | .anewarray x => decide (ln = 3) && (decide (nx = pc + 3) && decide ((x, a) ∈ Z.2.2.2.2.2.1))
    | .multianewarray x d => decide (ln = 4) && (decide (nx = pc + 4) && (decide (d = 2) && (decide (x = Z.2.2.2.2.2.2) && decide (x ≠ 0))))
    | .invokespecial x => decide (ln = 3) && (decide (nx = pc + 3) && (bif Nat.beq a 0 then decide (x = Z.1) && decide (x ≠ 0) else decide ((x, a - 1) ∈ Z.2.2.2.1)))
    | .invokestatic x => decide (ln = 3) && (decide (nx = pc + 3) && (decide (x = Z.2.1) && decide (x ≠ 0)))
    | .return_ => decide (ln = 1)
    | _ => decide (ln = 1) && decide (nx = pc + 1)
def bokR (cc : ByteArray) (own : String) (nL : Nat) (Z : bZ) (q : Nat × fO) : Bool := match decode cc q.1 with
  | .ok (i, ln) => decide (i = q.2.1) && bok own nL Z q.1 ln q.2
  | _ => false
def bokT (cc : ByteArray) (own : String) (nL : Nat) (Z : bZ) (t : fTb) : Bool := t.all (fun ch => ch.2.all (bokR cc own nL Z))
theorem bokT_at {cc : ByteArray} {own : String} {nL : Nat} {Z : bZ} {t : fTb} (h : bokT cc own nL Z t = true) {pc : Nat} {o : fO} (ho : flk t pc = some o) : ∃ ln, decode cc pc = .ok (o.1, ln) ∧ bok own nL Z pc ln o = true := by
  obtain ⟨ch, h1, h2⟩ := flk_mem ho
  have h3 := List.all_eq_true.mp (List.all_eq_true.mp h ch h1) _ h2
  unfold bokR at h3
  split at h3
  · rename_i i ln hd
    rw [Bool.and_eq_true, decide_eq_true_eq] at h3
    exact ⟨ln, by rw [hd, h3.1], h3.2⟩
  · cases h3
/-! the ten classes -/
theorem b_lt10 {P : Nat → Prop} (h : ∀ a, a < 9 → P a) (h9 : P 9) : ∀ a, a < 10 → P a := fun a ha => (Nat.lt_or_eq_of_le (Nat.le_of_lt_succ ha)).elim (h a) (fun e => e ▸ h9)
theorem buw_ok : ∀ a, a < 10 → ∀ w ∈ u_ws (fct a).1 (fct a).2.1 (fct a).2.2, w ∈ fT := b_lt10 fuw_ok j_uw
theorem bnm_ok : ∀ a, a < 10 → ∀ i, i < (fct a).2.2 → ∀ j, j < (fct a).2.2 → i ≠ j → ((fct a).2.1 i).2.1 ≠ ((fct a).2.1 j).2.1 := b_lt10 fnm_ok (by decide +kernel)
def bcd (t : FieldType) : Nat := match t with
  | .int => 0
  | .boolean => 1
  | .long => 2
  | .object _ => 3
  | .array _ => 3
  | .byte => 4
  | _ => 9
theorem bty_all : ∀ a, a < 10 → ∀ k, k < (bkf a).length → (parseFieldDescriptor ((fct a).2.1 k).2.2.1).map bcd = some ((bkf a).getD k 9) := by decide +kernel
theorem blen_ok : ∀ a, a < 10 → (fct a).2.2 = (bkf a).length := by decide +kernel
theorem bcl_at : ∀ a, a < 10 → fcl[a]? = some (fct a) := b_lt10 fcl_at rfl
theorem bty_ok : ∀ a, a < 10 → ∃ ty : Nat → FieldType, (∀ k, k < (fct a).2.2 → parseFieldDescriptor ((fct a).2.1 k).2.2.1 = some (ty k)) ∧ ∀ k, k < (fct a).2.2 → bcd (ty k) = (bkf a).getD k 9 := by
  intro a ha
  have h : ∀ k, ∃ t, k < (fct a).2.2 → parseFieldDescriptor ((fct a).2.1 k).2.2.1 = some t ∧ bcd t = (bkf a).getD k 9 := by
    intro k
    by_cases hk : k < (fct a).2.2
    · have h1 := bty_all a ha k (by rw [← blen_ok a ha]; exact hk)
      rw [Option.map_eq_some_iff] at h1
      obtain ⟨t, h2, h3⟩ := h1
      exact ⟨t, fun _ => ⟨h2, h3⟩⟩
    · exact ⟨.int, fun q => absurd q hk⟩
  exact ⟨fun k => Classical.choose (h k), fun k hk => (Classical.choose_spec (h k) hk).1, fun k hk => (Classical.choose_spec (h k) hk).2⟩
theorem bdef_ok {t : FieldType} {n : Nat} (h : bcd t = n) (hn : n < 5) (G : fG) (z : Nat) : defaultValue t = bval G z (bnull n) := by
  subst h
  cases t <;> first | rfl | exact absurd hn (by decide)
theorem bkf_lt : ∀ a, a < 10 → ∀ k, k < (bkf a).length → (bkf a).getD k 9 < 5 := by decide +kernel
theorem binit_at {G : fG} {z a k : Nat} (hk : k < (bkf a).length) : vp_V ((binit a).map (bval G z)) k = bval G z (bnull ((bkf a).getD k 9)) := by
  unfold vp_V binit
  simp [hk, List.getD_eq_getElem?_getD]
theorem vp_map_set {G : fG} {z k : Nat} {fs : List (Option fV)} {x : Option fV} : (fs.map (bval G z)).set k (bval G z x) = (fs.set k x).map (bval G z) := by
  rw [List.map_set]
theorem bcon_new {z a N : Nat} {cA : ClassId} (ha : a < 5 ∨ a = 8) : vp_cell cA (N, bcon z a []) = arrV cA N (fun _ => defaultValue (fty.getD a .int)) := by
  rcases (show a = 0 ∨ a = 1 ∨ a = 2 ∨ a = 3 ∨ a = 4 ∨ a = 8 by omega) with rfl | rfl | rfl | rfl | rfl | rfl <;> rfl
theorem bw_oi : Jvm.Cond.instanceMethod Lib.objectInit ∈ fT := fT_mem 109 (by decide +kernel) rfl
theorem bw_oc : Jvm.Cond.code Lib.objectInit ⟨#[0xb1]⟩ 1 none ∈ fT := fT_mem 110 (by decide +kernel) rfl
theorem bw_m1 : Jvm.Cond.static Lib.Math.min.name ∈ fT := fT_mem 196 (by decide +kernel) rfl
theorem bw_m2 : Jvm.Cond.initialized "java/lang/Math" ∈ fT := fT_mem 75 (by decide +kernel) rfl
theorem bw_m3 : Jvm.Cond.code Lib.Math.min.name Lib.Math.min.code 2 (some .int) ∈ fT := fT_mem 197 (by decide +kernel) rfl
def bacs : List (Jvm.Cond × Nat) := [(.arrayClass .int, 151), (.arrayClass .boolean, 152), (.arrayClass .char, 282), (.arrayClass .long, 2060), (.arrayClass .double, 2061), (.arrayClass .byte, 315)]
theorem bacs_ok : fTl bacs := by unfold fTl; decide +kernel
theorem bac_ok : ∀ a, a < 5 ∨ a = 8 → Jvm.Cond.arrayClass (fty.getD a .int) ∈ fT := by
  intro a ha
  rcases (show a = 0 ∨ a = 1 ∨ a = 2 ∨ a = 3 ∨ a = 4 ∨ a = 8 by omega) with rfl | rfl | rfl | rfl | rfl | rfl
  · exact fTl_at bacs_ok 0 rfl
  · exact fTl_at bacs_ok 1 rfl
  · exact fTl_at bacs_ok 2 rfl
  · exact fTl_at bacs_ok 3 rfl
  · exact fTl_at bacs_ok 4 rfl
  · exact fTl_at bacs_ok 5 rfl
def bHZ (G : fG) (l : Launch) (own : String) (cc : ByteArray) (nL : Nat) (R : Room) (E : bX) (Z : bZ) : Prop :=
  (Z.1 ≠ 0 → Jvm.Cond.methodLink own Z.1 Lib.objectInit ∈ fT) ∧ (Z.2.1 ≠ 0 → Jvm.Cond.methodLink own Z.2.1 Lib.Math.min.name ∈ fT) ∧ (∀ q ∈ Z.2.2.1, ffw own q ∈ fT) ∧ (∀ q ∈ Z.2.2.2.1, ∃ f, E.1[q.2]? = some f ∧ bCS G l own cc nL R q.1 f) ∧
  (∀ q ∈ Z.2.2.2.2.1, q.2 < 10 ∧ Jvm.Cond.classLink own q.1 (fct q.2).1 ∈ fT ∧ Jvm.Cond.instantiable (fct q.2).1 (bkf q.2).length ∈ fT ∧ Jvm.Cond.initialized (fct q.2).1 ∈ fT) ∧
  (∀ q ∈ Z.2.2.2.2.2.1, (q.2 = 5 ∧ Jvm.Cond.classLink own q.1 "PuddleBoatyard$Hull" ∈ fT) ∨ (q.2 = 6 ∧ Jvm.Cond.classLink own q.1 "PuddleBoatyard$Yard" ∈ fT)) ∧ (Z.2.2.2.2.2.2 ≠ 0 → Jvm.Cond.classLink own Z.2.2.2.2.2.2 ("[" ++ (FieldType.array .int).toString) ∈ fT) ∧
  1 ≤ R.frames ∧ 100 ≤ R.locals
/-! SOUNDNESS -/
def bSt (G : fG) (z : Nat) (s : State) (nL MC MS : Nat) (L : List (Option fV)) (w : bWs) (k n : Nat) (H : Heap) (locs : List Loc) (ls : Array Slot) : Prop :=
  bM G z w H ∧ va_S (bA z) s.heap H locs ∧ fLH (gBz G z) ls nL L ∧ k ≤ MC ∧ n ≤ MS
def bGo (p : Program) (l : Launch) (e : Env) (R : Room) (s : State) (m : MethodId) (args : Array Value) (below : List Frame) (meth : Method) (c : Code) (G : fG) (z nL MC MS : Nat) (res : bWs) (k : bK) : Prop :=
  ∀ (pc : Nat) (L : List (Option fV)) (S : List fV) (w : bWs) (k1 n1 : Nat) (H : Heap) (locs : List Loc) (ls : Array Slot), k pc L S w k1 n1 = some res → bSt G z s nL MC MS L w k1 n1 H locs ls →
    W p l e R s m args below meth c H locs k1 n1 (MQ below (bQ G z res) args s MC MS (bA z)) (F0 m pc ls (S.map (ftv (gBz G z))))
section BSND
variable {p : Program} {l : Launch} {e : Env} {R : Room} {s : State} {m : MethodId} {args : Array Value} {below : List Frame} {meth : Method} {c : Code} {G : fG} {z : Nat} {cc : ByteArray} {own : String} {nL MC MS : Nat} {res : bWs}
variable {Z : bZ} {E : bX} {k : bK} {ln nx a b : Nat} {v : Int32} {ts : List Nat} {pc : Nat} {L : List (Option fV)} {S : List fV} {w : bWs} {k1 n1 : Nat} {H : Heap} {locs : List Loc} {ls : Array Slot}
theorem bld {t : Nat} {kk : fV → Option bWs} (h : bload L a t kk = some res) : ∃ x, L[a]? = some (some x) ∧ ftag x = t ∧ kk x = some res := by
  unfold bload at h
  split at h
  · rename_i x hx
    cases hb : Nat.beq (ftag x) t <;> rw [hb] at h
    · cases h
    · exact ⟨x, hx, Nat.eq_of_beq_eq_true hb, h⟩
  · cases h
theorem bff_any {x : Nat} {fl : List (Nat × Nat × Nat × Nat)} (hfl : ∀ q ∈ fl, ffw own q ∈ fT) (h : fl.any (fun q => decide (q.1 = x) && (decide (q.2.1 = a) && decide (q.2.2.1 = b))) = true) : ∃ y, ffw own (x, a, b, y) ∈ fT := by
  obtain ⟨q, hq, h2⟩ := List.any_eq_true.mp h
  simp only [Bool.and_eq_true, decide_eq_true_eq] at h2
  obtain ⟨rfl, rfl, rfl⟩ := h2
  exact ⟨q.2.2.2, hfl q hq⟩
theorem va_S_up {H0 : Heap} (hz : G.2.2.2 ≤ z) (h : va_S (bA z) H0 H locs) : va_S (fA G) H0 H locs := ⟨h.1, fun q h1 h2 => h.2.1 q h1 (fun h3 => h2 (Nat.le_trans hz h3)), fun q hq => Nat.le_trans hz (h.2.2 q hq)⟩
theorem b_S {H1 : Heap} {x y : Nat} (hS : va_S (bA z) s.heap H locs) (e1 : H1.size = H.size) (e2 : ∀ q : Nat, q ≠ z + x → H1[q]? = H[q]?) : va_S (bA z) s.heap H1 (locs ++ [⟨z + x, y⟩]) := hS.put e1 e2 (Nat.le_add_right _ _)
theorem b_Sn {H1 : Heap} {n : Nat} (hS : va_S (bA z) s.heap H locs) (e1 : H1.size = H.size + n) (e2 : ∀ q : Nat, q < H.size → H1[q]? = H[q]?) : va_S (bA z) s.heap H1 locs := ⟨Nat.le_trans hS.1 (by omega), fun q h1 h2 => (e2 q (Nat.lt_of_lt_of_le h1 hS.1)).trans (hS.2.1 q h1 h2), hS.2.2⟩

theorem bs_iconst {n : Int} (C : bCx G z p l s m args meth c cc own nL) (hd : decode cc pc = .ok (.iconst n, ln)) (hk : bok own nL Z pc ln (.iconst n, nx, a, b, v, ts) = true) (K : bGo p l e R s m args below meth c G z nL MC MS res k) (h : bstep E (.iconst n, nx, a, b, v, ts) L S w k1 n1 k = some res) (hs : bSt G z s nL MC MS L w k1 n1 H locs ls) :
    W p l e R s m args below meth c H locs k1 n1 (MQ below (bQ G z res) args s MC MS (bA z)) (F0 m pc ls (S.map (ftv (gBz G z)))) := by
  obtain ⟨hx, hb, hml, hown, hts, hlocks, hP, hz1, hz2⟩ := id C
  obtain ⟨hM, hS, hl, hk1, hn1⟩ := hs
  simp only [bok, Bool.and_eq_true, Bool.or_eq_true, decide_eq_true_eq] at hk
  obtain ⟨rfl, rfl, hv⟩ := hk
  simp only [bstep] at h
  refine lv_iconst (v := v) hx hb hd hv.symm ?_
  exact K _ L (vI v :: S) w k1 n1 H locs ls h ⟨hM, hS, hl, hk1, hn1⟩
theorem bs_bipush {n : Int} (C : bCx G z p l s m args meth c cc own nL) (hd : decode cc pc = .ok (.bipush n, ln)) (hk : bok own nL Z pc ln (.bipush n, nx, a, b, v, ts) = true) (K : bGo p l e R s m args below meth c G z nL MC MS res k) (h : bstep E (.bipush n, nx, a, b, v, ts) L S w k1 n1 k = some res) (hs : bSt G z s nL MC MS L w k1 n1 H locs ls) :
    W p l e R s m args below meth c H locs k1 n1 (MQ below (bQ G z res) args s MC MS (bA z)) (F0 m pc ls (S.map (ftv (gBz G z)))) := by
  obtain ⟨hx, hb, hml, hown, hts, hlocks, hP, hz1, hz2⟩ := id C
  obtain ⟨hM, hS, hl, hk1, hn1⟩ := hs
  simp only [bok, Bool.and_eq_true, Bool.or_eq_true, decide_eq_true_eq] at hk
  obtain ⟨rfl, rfl, hv⟩ := hk
  simp only [bstep] at h
  refine lv_bipush (v := v) hx hb hd hv.symm ?_
  exact K _ L (vI v :: S) w k1 n1 H locs ls h ⟨hM, hS, hl, hk1, hn1⟩
theorem bs_sipush {n : Int} (C : bCx G z p l s m args meth c cc own nL) (hd : decode cc pc = .ok (.sipush n, ln)) (hk : bok own nL Z pc ln (.sipush n, nx, a, b, v, ts) = true) (K : bGo p l e R s m args below meth c G z nL MC MS res k) (h : bstep E (.sipush n, nx, a, b, v, ts) L S w k1 n1 k = some res) (hs : bSt G z s nL MC MS L w k1 n1 H locs ls) :
    W p l e R s m args below meth c H locs k1 n1 (MQ below (bQ G z res) args s MC MS (bA z)) (F0 m pc ls (S.map (ftv (gBz G z)))) := by
  obtain ⟨hx, hb, hml, hown, hts, hlocks, hP, hz1, hz2⟩ := id C
  obtain ⟨hM, hS, hl, hk1, hn1⟩ := hs
  simp only [bok, Bool.and_eq_true, Bool.or_eq_true, decide_eq_true_eq] at hk
  obtain ⟨rfl, rfl, hv⟩ := hk
  simp only [bstep] at h
  refine lv_sipush (v := v) hx hb hd hv.symm ?_
  exact K _ L (vI v :: S) w k1 n1 H locs ls h ⟨hM, hS, hl, hk1, hn1⟩
theorem bs_getstatic {x : Nat} (C : bCx G z p l s m args meth c cc own nL) (hd : decode cc pc = .ok (.getstatic x, ln)) (hk : bok own nL Z pc ln (.getstatic x, nx, a, b, v, ts) = true) (K : bGo p l e R s m args below meth c G z nL MC MS res k) (h : bstep E (.getstatic x, nx, a, b, v, ts) L S w k1 n1 k = some res) (hs : bSt G z s nL MC MS L w k1 n1 H locs ls) :
    W p l e R s m args below meth c H locs k1 n1 (MQ below (bQ G z res) args s MC MS (bA z)) (F0 m pc ls (S.map (ftv (gBz G z)))) := by
  obtain ⟨hx, hb, hml, hown, hts, hlocks, hP, hz1, hz2⟩ := id C
  obtain ⟨hM, hS, hl, hk1, hn1⟩ := hs
  simp only [bok, Bool.and_eq_true, Bool.or_eq_true, decide_eq_true_eq] at hk
  obtain ⟨rfl, rfl, rfl, rfl⟩ := hk
  simp only [bstep] at h
  refine va_gets hx hb hP.2.2.2.2.2.2.2.2.1 (va_S_up hz1 hS) hown (hts _ (jw_at 0 rfl)) (fun _ h9 => h9) hd ?_
  exact K _ L (vI 1 :: S) w k1 n1 H locs ls h ⟨hM, hS, hl, hk1, hn1⟩
theorem bs_iload_n {i : Fin 4} (C : bCx G z p l s m args meth c cc own nL) (hd : decode cc pc = .ok (.iload_n i, ln)) (hk : bok own nL Z pc ln (.iload_n i, nx, a, b, v, ts) = true) (K : bGo p l e R s m args below meth c G z nL MC MS res k) (h : bstep E (.iload_n i, nx, a, b, v, ts) L S w k1 n1 k = some res) (hs : bSt G z s nL MC MS L w k1 n1 H locs ls) :
    W p l e R s m args below meth c H locs k1 n1 (MQ below (bQ G z res) args s MC MS (bA z)) (F0 m pc ls (S.map (ftv (gBz G z)))) := by
  obtain ⟨hx, hb, hml, hown, hts, hlocks, hP, hz1, hz2⟩ := id C
  obtain ⟨hM, hS, hl, hk1, hn1⟩ := hs
  simp only [bok, Bool.and_eq_true, Bool.or_eq_true, decide_eq_true_eq] at hk
  obtain ⟨rfl, rfl, rfl⟩ := hk
  obtain ⟨x, hx1, hx2, hx3⟩ := bld h
  obtain ⟨r, rfl⟩ := ftag1 hx2
  refine lv_iload_n hx hb hd rfl (hl.2.2.2 _ _ hx1) ?_
  exact K _ L (_ :: S) w k1 n1 H locs ls hx3 ⟨hM, hS, hl, hk1, hn1⟩
theorem bs_aload_n {i : Fin 4} (C : bCx G z p l s m args meth c cc own nL) (hd : decode cc pc = .ok (.aload_n i, ln)) (hk : bok own nL Z pc ln (.aload_n i, nx, a, b, v, ts) = true) (K : bGo p l e R s m args below meth c G z nL MC MS res k) (h : bstep E (.aload_n i, nx, a, b, v, ts) L S w k1 n1 k = some res) (hs : bSt G z s nL MC MS L w k1 n1 H locs ls) :
    W p l e R s m args below meth c H locs k1 n1 (MQ below (bQ G z res) args s MC MS (bA z)) (F0 m pc ls (S.map (ftv (gBz G z)))) := by
  obtain ⟨hx, hb, hml, hown, hts, hlocks, hP, hz1, hz2⟩ := id C
  obtain ⟨hM, hS, hl, hk1, hn1⟩ := hs
  simp only [bok, Bool.and_eq_true, Bool.or_eq_true, decide_eq_true_eq] at hk
  obtain ⟨rfl, rfl, rfl⟩ := hk
  obtain ⟨x, hx1, hx2, hx3⟩ := bld h
  obtain ⟨r, rfl⟩ := ftag0 hx2
  refine lv_aload_n hx hb hd rfl (hl.2.2.2 _ _ hx1) ?_
  exact K _ L (_ :: S) w k1 n1 H locs ls hx3 ⟨hM, hS, hl, hk1, hn1⟩
theorem bs_istore_n {i : Fin 4} (C : bCx G z p l s m args meth c cc own nL) (hd : decode cc pc = .ok (.istore_n i, ln)) (hk : bok own nL Z pc ln (.istore_n i, nx, a, b, v, ts) = true) (K : bGo p l e R s m args below meth c G z nL MC MS res k) (h : bstep E (.istore_n i, nx, a, b, v, ts) L S w k1 n1 k = some res) (hs : bSt G z s nL MC MS L w k1 n1 H locs ls) :
    W p l e R s m args below meth c H locs k1 n1 (MQ below (bQ G z res) args s MC MS (bA z)) (F0 m pc ls (S.map (ftv (gBz G z)))) := by
  obtain ⟨hx, hb, hml, hown, hts, hlocks, hP, hz1, hz2⟩ := id C
  obtain ⟨hM, hS, hl, hk1, hn1⟩ := hs
  simp only [bok, Bool.and_eq_true, Bool.or_eq_true, decide_eq_true_eq] at hk
  obtain ⟨rfl, rfl, rfl, ha⟩ := hk
  simp only [bstep] at h
  split at h
  · rename_i x S'
    refine lv_istore_n hx hb hd rfl hl.has ha rfl (fun ls' hl' => ?_)
    exact K _ (fput1 L _ (some (vI x))) S' w k1 n1 H locs ls' h ⟨hM, hS, hl.put1 (Or.inl rfl) hl', hk1, hn1⟩
  · cases h
theorem bs_iinc {i : Nat} {n : Int} (C : bCx G z p l s m args meth c cc own nL) (hd : decode cc pc = .ok (.iinc i n, ln)) (hk : bok own nL Z pc ln (.iinc i n, nx, a, b, v, ts) = true) (K : bGo p l e R s m args below meth c G z nL MC MS res k) (h : bstep E (.iinc i n, nx, a, b, v, ts) L S w k1 n1 k = some res) (hs : bSt G z s nL MC MS L w k1 n1 H locs ls) :
    W p l e R s m args below meth c H locs k1 n1 (MQ below (bQ G z res) args s MC MS (bA z)) (F0 m pc ls (S.map (ftv (gBz G z)))) := by
  obtain ⟨hx, hb, hml, hown, hts, hlocks, hP, hz1, hz2⟩ := id C
  obtain ⟨hM, hS, hl, hk1, hn1⟩ := hs
  simp only [bok, Bool.and_eq_true, Bool.or_eq_true, decide_eq_true_eq] at hk
  obtain ⟨rfl, rfl, rfl, hv, ha⟩ := hk
  simp only [bstep] at h
  split at h
  · rename_i x hx1
    obtain ⟨j, hj⟩ := List.getElem?_of_mem (flv_mem.mpr ⟨vI x, hx1, rfl⟩ : (a, ftv (gBz G z) (vI x)) ∈ flv (gBz G z) L)
    refine lv_iinc (v := x + v) hx hb hd hl.has (k := j) hj (by rw [hv]) ha rfl (fun ls' hl' => ?_)
    exact K _ (fput1 L _ (some (vI (x + v)))) S w k1 n1 H locs ls' h ⟨hM, hS, hl.put1 (Or.inl rfl) hl', hk1, hn1⟩
  · cases h
theorem bs_iadd (C : bCx G z p l s m args meth c cc own nL) (hd : decode cc pc = .ok (.iadd, ln)) (hk : bok own nL Z pc ln (.iadd, nx, a, b, v, ts) = true) (K : bGo p l e R s m args below meth c G z nL MC MS res k) (h : bstep E (.iadd, nx, a, b, v, ts) L S w k1 n1 k = some res) (hs : bSt G z s nL MC MS L w k1 n1 H locs ls) :
    W p l e R s m args below meth c H locs k1 n1 (MQ below (bQ G z res) args s MC MS (bA z)) (F0 m pc ls (S.map (ftv (gBz G z)))) := by
  obtain ⟨hx, hb, hml, hown, hts, hlocks, hP, hz1, hz2⟩ := id C
  obtain ⟨hM, hS, hl, hk1, hn1⟩ := hs
  simp only [bok, Bool.and_eq_true, Bool.or_eq_true, decide_eq_true_eq] at hk
  obtain ⟨rfl, rfl⟩ := hk
  simp only [bstep] at h
  split at h
  · rename_i y x S'
    refine lv_iadd hx hb hd ?_
    exact K _ L (vI (x + y) :: S') w k1 n1 H locs ls h ⟨hM, hS, hl, hk1, hn1⟩
  · cases h
theorem bs_isub (C : bCx G z p l s m args meth c cc own nL) (hd : decode cc pc = .ok (.isub, ln)) (hk : bok own nL Z pc ln (.isub, nx, a, b, v, ts) = true) (K : bGo p l e R s m args below meth c G z nL MC MS res k) (h : bstep E (.isub, nx, a, b, v, ts) L S w k1 n1 k = some res) (hs : bSt G z s nL MC MS L w k1 n1 H locs ls) :
    W p l e R s m args below meth c H locs k1 n1 (MQ below (bQ G z res) args s MC MS (bA z)) (F0 m pc ls (S.map (ftv (gBz G z)))) := by
  obtain ⟨hx, hb, hml, hown, hts, hlocks, hP, hz1, hz2⟩ := id C
  obtain ⟨hM, hS, hl, hk1, hn1⟩ := hs
  simp only [bok, Bool.and_eq_true, Bool.or_eq_true, decide_eq_true_eq] at hk
  obtain ⟨rfl, rfl⟩ := hk
  simp only [bstep] at h
  split at h
  · rename_i y x S'
    refine lv_isub hx hb hd ?_
    exact K _ L (vI (x - y) :: S') w k1 n1 H locs ls h ⟨hM, hS, hl, hk1, hn1⟩
  · cases h
theorem bs_imul (C : bCx G z p l s m args meth c cc own nL) (hd : decode cc pc = .ok (.imul, ln)) (hk : bok own nL Z pc ln (.imul, nx, a, b, v, ts) = true) (K : bGo p l e R s m args below meth c G z nL MC MS res k) (h : bstep E (.imul, nx, a, b, v, ts) L S w k1 n1 k = some res) (hs : bSt G z s nL MC MS L w k1 n1 H locs ls) :
    W p l e R s m args below meth c H locs k1 n1 (MQ below (bQ G z res) args s MC MS (bA z)) (F0 m pc ls (S.map (ftv (gBz G z)))) := by
  obtain ⟨hx, hb, hml, hown, hts, hlocks, hP, hz1, hz2⟩ := id C
  obtain ⟨hM, hS, hl, hk1, hn1⟩ := hs
  simp only [bok, Bool.and_eq_true, Bool.or_eq_true, decide_eq_true_eq] at hk
  obtain ⟨rfl, rfl⟩ := hk
  simp only [bstep] at h
  split at h
  · rename_i y x S'
    refine lv_imul hx hb hd ?_
    exact K _ L (vI (x * y) :: S') w k1 n1 H locs ls h ⟨hM, hS, hl, hk1, hn1⟩
  · cases h
theorem bs_dup (C : bCx G z p l s m args meth c cc own nL) (hd : decode cc pc = .ok (.dup, ln)) (hk : bok own nL Z pc ln (.dup, nx, a, b, v, ts) = true) (K : bGo p l e R s m args below meth c G z nL MC MS res k) (h : bstep E (.dup, nx, a, b, v, ts) L S w k1 n1 k = some res) (hs : bSt G z s nL MC MS L w k1 n1 H locs ls) :
    W p l e R s m args below meth c H locs k1 n1 (MQ below (bQ G z res) args s MC MS (bA z)) (F0 m pc ls (S.map (ftv (gBz G z)))) := by
  obtain ⟨hx, hb, hml, hown, hts, hlocks, hP, hz1, hz2⟩ := id C
  obtain ⟨hM, hS, hl, hk1, hn1⟩ := hs
  simp only [bok, Bool.and_eq_true, Bool.or_eq_true, decide_eq_true_eq] at hk
  obtain ⟨rfl, rfl⟩ := hk
  simp only [bstep] at h
  split at h
  · rename_i x S'
    cases hb0 : Nat.ble (ftag x) 1 <;> rw [hb0] at h
    · cases h
    refine lv_dup hx hb hd (ftag01 hb0) ?_
    exact K _ L (x :: x :: S') w k1 n1 H locs ls h ⟨hM, hS, hl, hk1, hn1⟩
  · cases h
theorem bs_icmp {q : ClassFile.Cond} {off : Int} (C : bCx G z p l s m args meth c cc own nL) (hd : decode cc pc = .ok (.if_icmp q off, ln)) (hk : bok own nL Z pc ln (.if_icmp q off, nx, a, b, v, ts) = true) (K : bGo p l e R s m args below meth c G z nL MC MS res k) (h : bstep E (.if_icmp q off, nx, a, b, v, ts) L S w k1 n1 k = some res) (hs : bSt G z s nL MC MS L w k1 n1 H locs ls) :
    W p l e R s m args below meth c H locs k1 n1 (MQ below (bQ G z res) args s MC MS (bA z)) (F0 m pc ls (S.map (ftv (gBz G z)))) := by
  obtain ⟨hx, hb, hml, hown, hts, hlocks, hP, hz1, hz2⟩ := id C
  obtain ⟨hM, hS, hl, hk1, hn1⟩ := hs
  simp only [bok, Bool.and_eq_true, Bool.or_eq_true, decide_eq_true_eq] at hk
  obtain ⟨rfl, rfl, ho⟩ := hk
  simp only [bstep] at h
  split at h
  · rename_i y x S'
    have hst : ∀ pc', k pc' L S' w k1 n1 = some res → W p l e R s m args below meth c H locs k1 n1 (MQ below (bQ G z res) args s MC MS (bA z)) (F0 m pc' ls (S'.map (ftv (gBz G z)))) := fun pc' hh => K pc' L S' w k1 n1 H locs ls hh ⟨hM, hS, hl, hk1, hn1⟩
    cases q <;> simp only [bcmp] at h
    case eq =>
      refine lv_icmp_eq (tgt := a) hx hb hd ho (fun hc => ?_) (fun hc => ?_)
      · rw [if_pos hc] at h
        exact hst _ h
      · rw [if_neg hc] at h
        exact hst _ h
    case ge =>
      refine lv_icmp_ge (tgt := a) hx hb hd ho (fun hc => ?_) (fun hc => ?_)
      · rw [if_pos hc] at h
        exact hst _ h
      · rw [if_neg hc] at h
        exact hst _ h
    case gt =>
      refine lv_icmp_gt (tgt := a) hx hb hd ho (fun hc => ?_) (fun hc => ?_)
      · rw [if_pos hc] at h
        exact hst _ h
      · rw [if_neg hc] at h
        exact hst _ h
    all_goals cases h
  · cases h
theorem bs_ifc {q : ClassFile.Cond} {off : Int} (C : bCx G z p l s m args meth c cc own nL) (hd : decode cc pc = .ok (.ifCond q off, ln)) (hk : bok own nL Z pc ln (.ifCond q off, nx, a, b, v, ts) = true) (K : bGo p l e R s m args below meth c G z nL MC MS res k) (h : bstep E (.ifCond q off, nx, a, b, v, ts) L S w k1 n1 k = some res) (hs : bSt G z s nL MC MS L w k1 n1 H locs ls) :
    W p l e R s m args below meth c H locs k1 n1 (MQ below (bQ G z res) args s MC MS (bA z)) (F0 m pc ls (S.map (ftv (gBz G z)))) := by
  obtain ⟨hx, hb, hml, hown, hts, hlocks, hP, hz1, hz2⟩ := id C
  obtain ⟨hM, hS, hl, hk1, hn1⟩ := hs
  simp only [bok, Bool.and_eq_true, Bool.or_eq_true, decide_eq_true_eq] at hk
  obtain ⟨rfl, rfl, ho⟩ := hk
  simp only [bstep] at h
  split at h
  · rename_i x S'
    have hst : ∀ pc', k pc' L S' w k1 n1 = some res → W p l e R s m args below meth c H locs k1 n1 (MQ below (bQ G z res) args s MC MS (bA z)) (F0 m pc' ls (S'.map (ftv (gBz G z)))) := fun pc' hh => K pc' L S' w k1 n1 H locs ls hh ⟨hM, hS, hl, hk1, hn1⟩
    cases q <;> simp only [bcmp] at h
    case eq =>
      refine lv_if_eq (tgt := a) hx hb hd ho (fun hc => ?_) (fun hc => ?_)
      · rw [if_pos hc] at h
        exact hst _ h
      · rw [if_neg hc] at h
        exact hst _ h
    case ge =>
      refine lv_if_ge (tgt := a) hx hb hd ho (fun hc => ?_) (fun hc => ?_)
      · rw [if_pos hc] at h
        exact hst _ h
      · rw [if_neg hc] at h
        exact hst _ h
    case gt =>
      refine lv_if_gt (tgt := a) hx hb hd ho (fun hc => ?_) (fun hc => ?_)
      · rw [if_pos hc] at h
        exact hst _ h
      · rw [if_neg hc] at h
        exact hst _ h
    all_goals cases h
  · cases h
theorem bs_goto {off : Int} (C : bCx G z p l s m args meth c cc own nL) (hd : decode cc pc = .ok (.goto off, ln)) (hk : bok own nL Z pc ln (.goto off, nx, a, b, v, ts) = true) (K : bGo p l e R s m args below meth c G z nL MC MS res k) (h : bstep E (.goto off, nx, a, b, v, ts) L S w k1 n1 k = some res) (hs : bSt G z s nL MC MS L w k1 n1 H locs ls) :
    W p l e R s m args below meth c H locs k1 n1 (MQ below (bQ G z res) args s MC MS (bA z)) (F0 m pc ls (S.map (ftv (gBz G z)))) := by
  obtain ⟨hx, hb, hml, hown, hts, hlocks, hP, hz1, hz2⟩ := id C
  obtain ⟨hM, hS, hl, hk1, hn1⟩ := hs
  simp only [bok, Bool.and_eq_true, Bool.or_eq_true, decide_eq_true_eq] at hk
  obtain ⟨rfl, ho⟩ := hk
  simp only [bstep] at h
  refine lv_goto (tgt := a) hx hb hd ho ?_
  exact K _ L S w k1 n1 H locs ls h ⟨hM, hS, hl, hk1, hn1⟩
theorem bs_getfield {x : Nat} (C : bCx G z p l s m args meth c cc own nL) (hd : decode cc pc = .ok (.getfield x, ln)) (hk : bok own nL Z pc ln (.getfield x, nx, a, b, v, ts) = true) (hfl : ∀ q ∈ Z.2.2.1, ffw own q ∈ fT) (K : bGo p l e R s m args below meth c G z nL MC MS res k) (h : bstep E (.getfield x, nx, a, b, v, ts) L S w k1 n1 k = some res) (hs : bSt G z s nL MC MS L w k1 n1 H locs ls) :
    W p l e R s m args below meth c H locs k1 n1 (MQ below (bQ G z res) args s MC MS (bA z)) (F0 m pc ls (S.map (ftv (gBz G z)))) := by
  obtain ⟨hx, hb, hml, hown, hts, hlocks, hP, hz1, hz2⟩ := id C
  obtain ⟨hM, hS, hl, hk1, hn1⟩ := hs
  simp only [bok, Bool.and_eq_true, Bool.or_eq_true, decide_eq_true_eq] at hk
  obtain ⟨rfl, rfl, hany, ha, hbk⟩ := hk
  simp only [bstep] at h
  obtain ⟨y, hl9⟩ := bff_any hfl hany
  split at h
  · rename_i q i q2 S'
    split at h
    · rename_i c0 fs hw
      cases hb0 : Nat.beq c0 a <;> rw [hb0] at h
      · cases h
      have hq := Nat.eq_of_beq_eq_true hb0
      subst hq
      simp only [cond_true] at h
      split at h
      · rename_i r hr
        have hr2 : (fs.map (bval G z))[b]? = some (ftv (gBz G z) (.inl r)) := by rw [List.getElem?_map, hr]; rfl
        refine va_get (C := (fct c0).1) (T := (fct c0).2.1) (N := (fct c0).2.2) (ci := c0) hx hb hts (buw_ok c0 ha) hown hP.1 hM.2 i (bws_at hw) (bcl_at c0 ha) b (by rw [blen_ok c0 ha]; exact hbk) (hts _ hl9) (fun _ h9 => h9) hr2 hd ?_
        exact K _ L (.inl r :: S') w k1 n1 H locs ls h ⟨hM, hS, hl, hk1, hn1⟩
      · cases h
    · cases h
  · cases h
theorem b_put {i x b' c0 y : Nat} {fs : List (Option fV)} {u : fV} {ty : FieldType} {Q : State → Prop} {rest : List Value} (C : bCx G z p l s m args meth c cc own nL) (hin : meth.name = "<init>") (hM : bM G z w H) (hS : va_S (bA z) s.heap H locs) (hw : w[i]? = some (.inl (c0, fs))) (ha : c0 < 10) (hbk : b' < (bkf c0).length) (hlen : b' < fs.length) (hl9 : ffw own (x, c0, b', y) ∈ fT)
    (hfo : ((fct c0).2.1 b').2.2.2 = false ∨ ((fct c0).2.1 b').1 = own) (hty : parseFieldDescriptor ((fct c0).2.1 b').2.2.1 = some ty) (hn : narrow ty (ftv (gBz G z) u) = ftv (gBz G z) u) (hfit : fits ty (ftv (gBz G z) u) = true) (hd : decode cc pc = .ok (.putfield x, 3))
    (kk : ∀ (H1 : Heap) (locs1 : List Loc), bM G z (w.set i (.inl (c0, fs.set b' (some u)))) H1 → va_S (bA z) s.heap H1 locs1 → W p l e R s m args below meth c H1 locs1 k1 n1 Q (F0 m (pc + 3) ls rest)) : W p l e R s m args below meth c H locs k1 n1 Q (F0 m pc ls (ftv (gBz G z) u :: .ref (z + i) :: rest)) := by
  obtain ⟨hx, hb, hml, hown, hts, hlocks, hP, hz1, hz2⟩ := id C
  have hin9 := buw_ok c0 ha
  have hc := bcl_at c0 ha
  obtain ⟨ty0, hty0, -⟩ := bty_ok c0 ha
  have hap := va_apart (own := own) hts hin9 ty0 hty0 (bnm_ok c0 ha) hP.1 hc
  have hk9 : b' < (fct c0).2.2 := by rw [blen_ok c0 ha]; exact hbk
  have hi : i < w.length := (List.getElem?_eq_some_iff.mp hw).1
  obtain ⟨r, h1, cell, q1, q2, q3, q4⟩ := bM_at hM hw
  have hr : r = fct c0 := Option.some.inj (h1.symm.trans hc)
  subst hr
  obtain ⟨hSl, hfc, kC, hkC, hkind⟩ := hP.1.1 c0 _ hc
  obtain ⟨cf, kf, fi, f, hi9, hsl⟩ := hSl b' hk9
  have hlay := hts _ (hin9 _ (u_in_lay hk9))
  have hst := (u_facts hfc hkC (u_lays hts hin9 hk9) hi9).1
  have fin9 : ∀ H1 : Heap, H1[z + i]? = some (cell.setSlot (G.2.1.2 c0 b') (ftv (gBz G z) u)) → H1.size = H.size → (∀ q : Nat, q ≠ z + i → H1[q]? = H[q]?) → bM G z (w.set i (.inl (c0, fs.set b' (some u)))) H1 := fun H1 e1 e2 e3 => by
    refine bM_set hM hi e2 e3 ?_
    refine ⟨_, hc, t_OB.to (V := updV (vp_V (fs.map (bval G z))) b' (ftv (gBz G z) u)) ⟨_, e1, q2, q3, t_set q4 hap hk9 _⟩ (fun j _ => ?_)⟩
    rw [vp_updV_set (by rw [List.length_map]; exact hlen)]
    exact congrArg (fun q => vp_V q j) (vp_map_set (x := some u))
  rcases Bool.eq_false_or_eq_true ((fct c0).2.1 b').2.2.2 with hfin | hfin
  · have hdecl : ((fct c0).2.1 b').1 = own := hfo.resolve_left (by rw [hfin]; decide)
    unfold u_lay at hlay
    rw [if_pos hfin] at hlay
    have hcf : m.cls = cf := by
      obtain ⟨_, _, c', _, _, _, -, -, hf', -, -, -, hown2, -⟩ := Cond.laysFinal_spec hlay
      have e1 : c' = cf := by have := hi9.symm.trans hf'; simp at this; exact this.1.symm
      rw [hdecl] at hown2
      rw [← e1]; exact Option.some.inj (hown.symm.trans hown2)
    have h6 := u_fits hfc hkC hkind (Or.inr hlay) hi9 hty hn hfit
    refine W.putFinK hx hb hown (hts _ hl9) hi9 hst hcf hin (by rw [q2]; exact h6) q1 q3 (by rw [hsl]; exact k2_hasslot (q4 b' hk9)) rfl rfl hd fun H1 e1 e2 e3 => ?_
    rw [hsl] at e1 ⊢
    exact kk H1 _ (fin9 H1 e1 e2 e3) (b_S hS e2 e3)
  · unfold u_lay at hlay
    rw [if_neg (by rw [hfin]; decide)] at hlay
    have h6 := u_store hfc hkC hkind hlay hi9 hty hn hfit
    refine W.putK hx hb (f := f) ⟨hown, hts _ hl9, ⟨_, _, _, hi9⟩, hst⟩ (by rw [q2]; exact h6) q1 q3 (by rw [hsl]; exact k2_hasslot (q4 b' hk9)) rfl rfl hd fun H1 e1 e2 e3 => ?_
    rw [hsl] at e1 ⊢
    exact kk H1 _ (fin9 H1 e1 e2 e3) (b_S hS e2 e3)
theorem b_tyi {t : FieldType} {x : Int32} (h : bcd t = 0 ∨ (bcd t = 4 ∧ x = 0)) : narrow t (.int x) = .int x ∧ fits t (.int x) = true := by
  rcases h with h | ⟨h, rfl⟩
  · cases t <;> first | exact ⟨rfl, rfl⟩ | exact absurd h (by decide) | (unfold bcd at h; cases h)
  · cases t <;> first | exact ⟨rfl, rfl⟩ | exact absurd h (by decide) | (unfold bcd at h; cases h)
theorem b_tyr {t : FieldType} {x : Nat} (h : bcd t = 3) : narrow t (.ref x) = .ref x ∧ fits t (.ref x) = true := by
  cases t <;> first | exact ⟨rfl, rfl⟩ | exact absurd h (by decide) | (unfold bcd at h; cases h)
theorem bs_putfield {x : Nat} (C : bCx G z p l s m args meth c cc own nL) (hd : decode cc pc = .ok (.putfield x, ln)) (hk : bok own nL Z pc ln (.putfield x, nx, a, b, v, ts) = true) (hin : meth.name = "<init>") (hfl : ∀ q ∈ Z.2.2.1, ffw own q ∈ fT) (K : bGo p l e R s m args below meth c G z nL MC MS res k) (h : bstep E (.putfield x, nx, a, b, v, ts) L S w k1 n1 k = some res) (hs : bSt G z s nL MC MS L w k1 n1 H locs ls) :
    W p l e R s m args below meth c H locs k1 n1 (MQ below (bQ G z res) args s MC MS (bA z)) (F0 m pc ls (S.map (ftv (gBz G z)))) := by
  obtain ⟨hx, hb, hml, hown, hts, hlocks, hP, hz1, hz2⟩ := id C
  obtain ⟨hM, hS, hl, hk1, hn1⟩ := hs
  simp only [bok, Bool.and_eq_true, Bool.or_eq_true, decide_eq_true_eq] at hk
  obtain ⟨rfl, rfl, hany, ha, hbk, hfo⟩ := hk
  simp only [bstep] at h
  obtain ⟨y, hl9⟩ := bff_any hfl hany
  have hty9 := bty_all a ha b hbk
  rw [Option.map_eq_some_iff] at hty9
  obtain ⟨t, ht1, ht2⟩ := hty9
  split at h
  · rename_i x0 q i q2 S'
    split at h
    · rename_i c0 fs hw
      split at h
      · rename_i hc
        obtain ⟨rfl, h1, h2⟩ := hc
        obtain ⟨g1, g2⟩ := b_tyi (t := t) (x := x0) (by rw [ht2]; exact h2)
        refine b_put (u := vI x0) C hin hM hS hw ha hbk h1 hl9 hfo ht1 g1 g2 hd (fun H1 locs1 hM1 hS1 => ?_)
        exact K _ L S' _ k1 n1 H1 locs1 ls h ⟨hM1, hS1, hl, hk1, hn1⟩
      · cases h
    · cases h
  · rename_i r q i q2 S'
    split at h
    · rename_i c0 fs hw
      split at h
      · rename_i hc
        obtain ⟨rfl, h1, h2⟩ := hc
        obtain ⟨g1, g2⟩ := b_tyr (t := t) (x := z + r.2.1) (by rw [ht2]; exact h2)
        refine b_put (u := .inl r) C hin hM hS hw ha hbk h1 hl9 hfo ht1 g1 g2 hd (fun H1 locs1 hM1 hS1 => ?_)
        exact K _ L S' _ k1 n1 H1 locs1 ls h ⟨hM1, hS1, hl, hk1, hn1⟩
      · cases h
    · cases h
  · cases h
theorem b_newc {x a' : Nat} {rest : List Value} {Q : State → Prop} (C : bCx G z p l s m args meth c cc own nL) (hM : bM G z w H) (hS : va_S (bA z) s.heap H locs) (ha : a' < 10) (hcl : Jvm.Cond.classLink own x (fct a').1 ∈ fT) (hins : Jvm.Cond.instantiable (fct a').1 (bkf a').length ∈ fT) (hini : Jvm.Cond.initialized (fct a').1 ∈ fT) (hc9 : k1 + 1 ≤ R.cells) (hsl : n1 + (bkf a').length ≤ R.slots) (hd : decode cc pc = .ok (.new x, 3))
    (kk : ∀ (H1 : Heap), bM G z (w ++ [.inl (a', binit a')]) H1 → va_S (bA z) s.heap H1 locs → W p l e R s m args below meth c H1 locs (k1 + 1) (n1 + (bkf a').length) Q (F0 m (pc + 3) ls (.ref (z + w.length) :: rest))) : W p l e R s m args below meth c H locs k1 n1 Q (F0 m pc ls rest) := by
  obtain ⟨hx, hb, hml, hown, hts, hlocks, hP, hz1, hz2⟩ := id C
  have hc := bcl_at a' ha
  have hKn := hP.1.1 a' _ hc
  obtain ⟨ty0, hty0, hty1⟩ := bty_ok a' ha
  refine W.newcK hx hb hown (hts _ hcl) (hts _ hins) (hts _ hini) rfl hd hc9 hsl hKn.2.1 hM.1 fun H1 kC hkC e1 z1 o1 => ?_
  have z2 : H1.size = H.size + 1 := by rw [z1, hM.1]
  refine kk H1 (bM_push hM z2 (fun q hq => o1 q (by rw [← hM.1]; exact hq)) ⟨_, hc, (u_born ty0 hts (buw_ok a' ha) hKn hkC e1 hty0).to (fun j hj => ?_)⟩) (b_Sn hS z2 (fun q hq => o1 q (by rw [← hM.1]; exact hq)))
  have hj2 : j < (bkf a').length := by rw [← blen_ok a' ha]; exact hj
  show defaultValue (ty0 j) = vp_V ((binit a').map (bval G z)) j
  rw [binit_at hj2]
  exact bdef_ok (hty1 j hj) (bkf_lt a' ha j hj2) G z
theorem b_newa {t : ArrayType} {a' N : Nat} {n : Int32} {rest : List Value} {Q : State → Prop} (C : bCx G z p l s m args meth c cc own nL) (hM : bM G z w H) (hS : va_S (bA z) s.heap H locs) (ha : a' < 5 ∨ a' = 8) (hta : newarray.typeOf t = fty.getD a' .int) (hn0 : ¬ n < 0) (hN : n.toNatClampNeg = N) (hn5 : N ≤ 5000) (hc9 : k1 + 1 ≤ R.cells) (hsl : n1 + N ≤ R.slots) (hd : decode cc pc = .ok (.newarray t, 2))
    (kk : ∀ (H1 : Heap), bM G z (w ++ [.inr (a', N, [])]) H1 → va_S (bA z) s.heap H1 locs → W p l e R s m args below meth c H1 locs (k1 + 1) (n1 + N) Q (F0 m (pc + 2) ls (.ref (z + w.length) :: rest))) : W p l e R s m args below meth c H locs k1 n1 Q (F0 m pc ls (.int n :: rest)) := by
  obtain ⟨hx, hb, hml, hown, hts, hlocks, hP, hz1, hz2⟩ := id C
  refine va_newaK (N := N) hx hb (by rw [hta]; exact hts _ (bac_ok a' ha)) rfl hd rfl hn0 hN (by
    have : componentBytes (newarray.typeOf t) ≤ 8 := by cases t <;> decide
    exact Nat.le_trans (Nat.mul_le_mul hn5 this) (by decide)) hc9 hsl hM.1 fun H1 cA e1 z1 o1 hAr hNm => ?_
  have hcA : cA = G.2.2.1 a' := by
    have h9 := (hP.1.2 a' _ (ftys_at G a' (by omega))).2
    rw [hta] at hNm
    refine Option.some.inj (hNm.symm.trans ?_)
    rcases (show a' = 0 ∨ a' = 1 ∨ a' = 2 ∨ a' = 3 ∨ a' = 4 ∨ a' = 8 by omega) with rfl | rfl | rfl | rfl | rfl | rfl <;> exact h9
  subst hcA
  have z2 : H1.size = H.size + 1 := by rw [z1, hM.1]
  refine kk H1 (bM_push hM z2 (fun q hq => o1 q (by rw [← hM.1]; exact hq)) ?_) (b_Sn hS z2 (fun q hq => o1 q (by rw [← hM.1]; exact hq)))
  show H1[z + w.length]? = some (vp_cell (G.2.2.1 a') (N, bcon z a' []))
  rw [bcon_new ha, e1, hta]
theorem bs_new {x : Nat} (C : bCx G z p l s m args meth c cc own nL) (hd : decode cc pc = .ok (.new x, ln)) (hk : bok own nL Z pc ln (.new x, nx, a, b, v, ts) = true) (hE : E.2 = (MC, MS)) (hR : MC ≤ R.cells ∧ MS ≤ R.slots) (hks : ∀ q ∈ Z.2.2.2.2.1, q.2 < 10 ∧ Jvm.Cond.classLink own q.1 (fct q.2).1 ∈ fT ∧ Jvm.Cond.instantiable (fct q.2).1 (bkf q.2).length ∈ fT ∧ Jvm.Cond.initialized (fct q.2).1 ∈ fT) (K : bGo p l e R s m args below meth c G z nL MC MS res k) (h : bstep E (.new x, nx, a, b, v, ts) L S w k1 n1 k = some res) (hs : bSt G z s nL MC MS L w k1 n1 H locs ls) :
    W p l e R s m args below meth c H locs k1 n1 (MQ below (bQ G z res) args s MC MS (bA z)) (F0 m pc ls (S.map (ftv (gBz G z)))) := by
  obtain ⟨hx, hb, hml, hown, hts, hlocks, hP, hz1, hz2⟩ := id C
  obtain ⟨hM, hS, hl, hk1, hn1⟩ := hs
  simp only [bok, Bool.and_eq_true, Bool.or_eq_true, decide_eq_true_eq] at hk
  obtain ⟨rfl, rfl, hm⟩ := hk
  simp only [bstep] at h
  obtain ⟨ha, hcl, hins, hini⟩ := hks _ hm
  cases hb0 : (Nat.ble (k1 + 1) E.2.1 && Nat.ble (n1 + (bkf a).length) E.2.2) <;> rw [hb0] at h
  · cases h
  rw [hE, Bool.and_eq_true] at hb0
  have g1 := Nat.le_of_ble_eq_true hb0.1
  have g2 := Nat.le_of_ble_eq_true hb0.2
  exact b_newc (a' := a) C hM hS ha hcl hins hini (by omega) (by omega) hd (fun H1 hM1 hS1 => K _ L (bR w.length :: S) _ _ _ H1 locs ls h ⟨hM1, hS1, hl, g1, g2⟩)
theorem bs_newarray {t : ArrayType} (C : bCx G z p l s m args meth c cc own nL) (hd : decode cc pc = .ok (.newarray t, ln)) (hk : bok own nL Z pc ln (.newarray t, nx, a, b, v, ts) = true) (hE : E.2 = (MC, MS)) (hR : MC ≤ R.cells ∧ MS ≤ R.slots) (K : bGo p l e R s m args below meth c G z nL MC MS res k) (h : bstep E (.newarray t, nx, a, b, v, ts) L S w k1 n1 k = some res) (hs : bSt G z s nL MC MS L w k1 n1 H locs ls) :
    W p l e R s m args below meth c H locs k1 n1 (MQ below (bQ G z res) args s MC MS (bA z)) (F0 m pc ls (S.map (ftv (gBz G z)))) := by
  obtain ⟨hx, hb, hml, hown, hts, hlocks, hP, hz1, hz2⟩ := id C
  obtain ⟨hM, hS, hl, hk1, hn1⟩ := hs
  simp only [bok, Bool.and_eq_true, Bool.or_eq_true, decide_eq_true_eq] at hk
  obtain ⟨rfl, rfl, ha, hta⟩ := hk
  simp only [bstep] at h
  split at h
  · rename_i n S'
    split at h
    · cases h
    rename_i hn
    cases hb0 : (Nat.ble (k1 + 1) E.2.1 && Nat.ble (n1 + n.toNatClampNeg) E.2.2) <;> rw [hb0] at h
    · cases h
    rw [hE, Bool.and_eq_true] at hb0
    have g1 := Nat.le_of_ble_eq_true hb0.1
    have g2 := Nat.le_of_ble_eq_true hb0.2
    exact b_newa C hM hS ha hta (fun q => hn (Or.inl q)) rfl (Nat.not_lt.mp fun q => hn (Or.inr q)) (by omega) (by omega) hd (fun H1 hM1 hS1 => K _ L (bR w.length :: S') _ _ _ H1 locs ls h ⟨hM1, hS1, hl, g1, g2⟩)
  · cases h
theorem b_anew {x N t : Nat} {C0 : String} {n : Int32} {rest : List Value} {Q : State → Prop} (C : bCx G z p l s m args meth c cc own nL) (hM : bM G z w H) (hS : va_S (bA z) s.heap H locs) (ht : t = 5 ∨ t = 6) (hC0 : fty.getD t .int = .object C0) (hcl : Jvm.Cond.classLink own x C0 ∈ fT) (hao : va_AO C0 s) (hn : ¬ n < 0) (hN : n.toNatClampNeg = N) (hN5 : N ≤ 5000) (hc : k1 + 1 ≤ R.cells) (hsl : n1 + N ≤ R.slots) (hd : decode cc pc = .ok (.anewarray x, 3))
    (kk : ∀ (H1 : Heap), bM G z (w ++ [.inr (t, N, [])]) H1 → va_S (bA z) s.heap H1 locs → W p l e R s m args below meth c H1 locs (k1 + 1) (n1 + N) Q (F0 m (pc + 3) ls (.ref (z + w.length) :: rest))) : W p l e R s m args below meth c H locs k1 n1 Q (F0 m pc ls (.int n :: rest)) := by
  obtain ⟨hx, hb, hml, hown, hts, hlocks, hP, hz1, hz2⟩ := id C
  subst hN
  refine W.anew hx hb hown (hts _ hcl) (va_AO.use hao) rfl hd rfl hn (by omega) hc hsl fun cA kA comp f1 f2 f3 f4 => ?_
  generalize hH1 : H.push ({ cls := cA, slots := Array.replicate n.toNatClampNeg .null, vm := .none } : Cell) = H1
  have z1 : H1.size = H.size + 1 := by rw [← hH1, Array.size_push]
  have e1 : H1[H.size]? = some (arrV cA n.toNatClampNeg (fun _ => .null)) := by rw [← hH1, Array.getElem?_push_size, ← arrV_new]
  have o1 : ∀ q : Nat, q < H.size → H1[q]? = H[q]? := fun q hq => by rw [← hH1, Array.getElem?_push, if_neg (Nat.ne_of_lt hq)]
  have hcA : cA = G.2.2.1 t := by
    have h9 := (hP.1.2 t _ (ftys_at G t (by omega))).2
    rw [hC0] at h9
    obtain ⟨_, _, _, _, _, h8⟩ := h9
    exact Option.some.inj (f1.symm.trans h8)
  subst hcA
  rw [hM.1]
  refine kk H1 (bM_push hM z1 o1 ?_) (b_Sn hS z1 o1)
  show H1[z + w.length]? = some (vp_cell (G.2.2.1 t) (n.toNatClampNeg, bcon z t []))
  rw [← hM.1, e1]
  rcases ht with rfl | rfl <;> rfl
theorem bs_anewarray {x : Nat} (C : bCx G z p l s m args meth c cc own nL) (hd : decode cc pc = .ok (.anewarray x, ln)) (hk : bok own nL Z pc ln (.anewarray x, nx, a, b, v, ts) = true) (hE : E.2 = (MC, MS)) (hR : MC ≤ R.cells ∧ MS ≤ R.slots) (har : ∀ q ∈ Z.2.2.2.2.2.1, (q.2 = 5 ∧ Jvm.Cond.classLink own q.1 "PuddleBoatyard$Hull" ∈ fT) ∨ (q.2 = 6 ∧ Jvm.Cond.classLink own q.1 "PuddleBoatyard$Yard" ∈ fT)) (K : bGo p l e R s m args below meth c G z nL MC MS res k) (h : bstep E (.anewarray x, nx, a, b, v, ts) L S w k1 n1 k = some res) (hs : bSt G z s nL MC MS L w k1 n1 H locs ls) :
    W p l e R s m args below meth c H locs k1 n1 (MQ below (bQ G z res) args s MC MS (bA z)) (F0 m pc ls (S.map (ftv (gBz G z)))) := by
  obtain ⟨hx, hb, hml, hown, hts, hlocks, hP, hz1, hz2⟩ := id C
  obtain ⟨hM, hS, hl, hk1, hn1⟩ := hs
  simp only [bok, Bool.and_eq_true, Bool.or_eq_true, decide_eq_true_eq] at hk
  obtain ⟨rfl, rfl, hm⟩ := hk
  simp only [bstep] at h
  split at h
  · rename_i n S'
    split at h
    · cases h
    rename_i hn
    cases hb0 : (Nat.ble (k1 + 1) E.2.1 && Nat.ble (n1 + n.toNatClampNeg) E.2.2) <;> rw [hb0] at h
    · cases h
    rw [hE, Bool.and_eq_true] at hb0
    have g1 := Nat.le_of_ble_eq_true hb0.1
    have g2 := Nat.le_of_ble_eq_true hb0.2
    have hn0 : ¬ n < 0 := fun q => hn (Or.inl q)
    have hn5 : n.toNatClampNeg ≤ 5000 := Nat.not_lt.mp fun q => hn (Or.inr q)
    have hX := jX_of hP
    rcases har _ hm with ⟨rfl, hcl⟩ | ⟨rfl, hcl⟩
    · exact b_anew C hM hS (Or.inl rfl) rfl hcl hX.2.2.2.1 hn0 rfl hn5 (by omega) (by omega) hd (fun H1 hM1 hS1 => K _ L (bR w.length :: S') _ _ _ H1 locs ls h ⟨hM1, hS1, hl, g1, g2⟩)
    · exact b_anew C hM hS (Or.inr rfl) rfl hcl hX.2.2.2.2.1 hn0 rfl hn5 (by omega) (by omega) hd (fun H1 hM1 hS1 => K _ L (bR w.length :: S') _ _ _ H1 locs ls h ⟨hM1, hS1, hl, g1, g2⟩)
  · cases h
theorem b_outer (c : ClassId) (N h0 : Nat) : ∀ i : Nat, Jvm.Free.Multi.outerC c N h0 i = arrV c N (fun j => va_rf (if j < i then some (h0 + 1 + j) else none))
  | 0 => by
    show ({ cls := c, slots := Array.replicate N .null, vm := .none } : Cell) = _
    rw [arrV_new]
    refine congrArg (arrV c N) (funext fun j => ?_)
    simp [va_rf]
  | i + 1 => by
    show (Jvm.Free.Multi.outerC c N h0 i).setSlot i (.ref (h0 + 1 + i)) = _
    rw [b_outer c N h0 i, arrV_store]
    refine congrArg (arrV c N) (funext fun j => ?_)
    by_cases e : j = i
    · subst e
      simp [updV, va_rf]
    · by_cases h : j < i
      · simp [updV, e, h, Nat.lt_succ_of_lt h]
      · simp [updV, e, h, show ¬ j < i + 1 by omega]
theorem blk_range {u N j : Nat} : ∀ o : Nat, blk ((List.range' o N).map (fun i => (i, bR (u + i)))) j = if o ≤ j ∧ j < o + N then some (bR (u + j)) else none := by
  induction N with
  | zero => intro o; rw [if_neg (by omega)]; rfl
  | succ N ih =>
    intro o
    rw [List.range'_succ]
    simp only [List.map_cons]
    unfold blk
    cases hb : Nat.beq o j
    · have hne : o ≠ j := fun q => by rw [q, Nat.beq_refl] at hb; cases hb
      simp only [cond_false]
      rw [ih (o + 1)]
      by_cases h : o + 1 ≤ j ∧ j < o + 1 + N
      · rw [if_pos h, if_pos (by omega)]
      · rw [if_neg h, if_neg (by omega)]
    · have he : o = j := Nat.eq_of_beq_eq_true hb
      subst he
      simp only [cond_true]
      rw [if_pos (by omega)]
theorem bM_pushes {w' : bWs} {H1 : Heap} (h : bM G z w H) (hz : H1.size = H.size + w'.length) (ho : ∀ q : Nat, q < H.size → H1[q]? = H[q]?) (he : ∀ i x, w'[i]? = some x → va_at G.2.1 fcl (z + w.length + i, bcell G z x) H1) : bM G z (w ++ w') H1 := by
  refine bM_of (by rw [hz, h.1, List.length_append]; omega) (fun j x hj => ?_)
  by_cases hl : j < w.length
  · rw [List.getElem?_append_left hl] at hj
    exact (bM_at h hj).kept (ho _ (by rw [h.1]; show z + j < _; omega))
  · rw [List.getElem?_append_right (by omega)] at hj
    have := he _ _ hj
    rw [show z + w.length + (j - w.length) = z + j by omega] at this
    exact this
/-- new int[n][k] -/
theorem b_grid {x : Nat} {n k' : Int32} {rest : List Value} {Q : State → Prop} (C : bCx G z p l s m args meth c cc own nL) (hM : bM G z w H) (hS : va_S (bA z) s.heap H locs) (hcl : Jvm.Cond.classLink own x ("[" ++ (FieldType.array .int).toString) ∈ fT) (hn : ¬ n < 0) (hn5 : n.toNatClampNeg ≤ 5000) (hk : ¬ k' < 0) (hk5 : k'.toNatClampNeg ≤ 5000) (hc : k1 + (1 + n.toNatClampNeg) ≤ R.cells) (hsl : n1 + (n.toNatClampNeg + n.toNatClampNeg * k'.toNatClampNeg) ≤ R.slots) (hd : decode cc pc = .ok (.multianewarray x 2, 4))
    (kk : ∀ (H1 : Heap), bM G z (w ++ (.inr (7, n.toNatClampNeg, (List.range n.toNatClampNeg).map (fun i => (i, bR (w.length + 1 + i)))) :: List.replicate n.toNatClampNeg (.inr (0, k'.toNatClampNeg, [])))) H1 → va_S (bA z) s.heap H1 locs → W p l e R s m args below meth c H1 locs (k1 + (1 + n.toNatClampNeg)) (n1 + (n.toNatClampNeg + n.toNatClampNeg * k'.toNatClampNeg)) Q (F0 m (pc + 4) ls (.ref (z + w.length) :: rest))) : W p l e R s m args below meth c H locs k1 n1 Q (F0 m pc ls (.int k' :: .int n :: rest)) := by
  obtain ⟨hx, hb, hml, hown, hts, hlocks, hP, hz1, hz2⟩ := id C
  intro T hT Xs
  have hao : (Jvm.Cond.arrayOver (.array .int)).before args s = true := (jX_of hP).2.2.2.2.2
  obtain ⟨vm₁, cA, comp, -, fA', fC, -, -, X', step⟩ := Xs.multianewarray2F hx hown (hts _ hcl) hao (hts _ (bac_ok 0 (by omega))) (g := F0 m pc ls (.int k' :: .int n :: rest)) rfl (by rw [hb]; exact hd) rfl hn hk (by omega) (by show k'.toNatClampNeg * 4 ≤ _; omega) (by omega) rfl rfl hc hsl
  have hcA : cA = G.2.2.1 7 := Option.some.inj (fA'.symm.trans (hP.1.2 7 _ (ftys_at G 7 (by omega))).2)
  have hco : comp = G.2.2.1 0 := Option.some.inj (fC.symm.trans (hP.1.2 0 _ (ftys_at G 0 (by omega))).2)
  subst hcA
  subst hco
  have hTh : (T.setVm vm₁).heap = H := hT
  obtain ⟨f1, f2, -, -⟩ := Jvm.Free.Multi.fill_facts (T.setVm vm₁) (G.2.2.1 7) (G.2.2.1 0) n.toNatClampNeg k'.toNatClampNeg (defaultValue .int) n.toNatClampNeg
  have hold := fun (q : Nat) (hq : q < H.size) => Jvm.Free.Multi.fill_old (T.setVm vm₁) (G.2.2.1 7) (G.2.2.1 0) n.toNatClampNeg k'.toNatClampNeg (defaultValue .int) (a := q) (by rw [hTh]; exact hq) n.toNatClampNeg
  have hrow := fun (j : Nat) (hj : j < n.toNatClampNeg) => Jvm.Free.Multi.fill_inner (T.setVm vm₁) (G.2.2.1 7) (G.2.2.1 0) n.toNatClampNeg k'.toNatClampNeg (defaultValue .int) n.toNatClampNeg j hj
  generalize Jvm.Free.Multi.fill (T.setVm vm₁) (G.2.2.1 7) (G.2.2.1 0) n.toNatClampNeg k'.toNatClampNeg (defaultValue .int) n.toNatClampNeg = F at X' step f1 f2 hold hrow
  rw [hTh] at f1 f2 hrow
  simp only [hTh] at hold
  have z1 : F.heap.size = H.size + (1 + n.toNatClampNeg) := by rw [f1]; omega
  have hM1 : bM G z (w ++ (.inr (7, n.toNatClampNeg, (List.range n.toNatClampNeg).map (fun i => (i, bR (w.length + 1 + i)))) :: List.replicate n.toNatClampNeg (.inr (0, k'.toNatClampNeg, [])))) F.heap := by
    refine bM_pushes hM (by rw [z1]; simp [Nat.add_comm]) hold (fun i y hy => ?_)
    match i, hy with
    | 0, hy =>
      cases hy
      show F.heap[z + w.length + 0]? = some (vp_cell (G.2.2.1 7) (n.toNatClampNeg, bcon z 7 _))
      rw [Nat.add_zero, ← hM.1, f2, b_outer]
      show _ = some (arrV (G.2.2.1 7) n.toNatClampNeg (fun j => va_rf ((bref ((List.range n.toNatClampNeg).map (fun i => (i, bR (w.length + 1 + i)))) j).map (fun i => z + i))))
      refine congrArg some (congrArg (arrV _ _) (funext fun j => congrArg va_rf ?_))
      unfold bref
      rw [List.range_eq_range', blk_range]
      by_cases hj : j < n.toNatClampNeg
      · rw [if_pos hj, if_pos (by omega)]
        show some _ = some (z + (w.length + 1 + j))
        rw [hM.1]
        congr 1
        omega
      · rw [if_neg hj, if_neg (by omega)]
        rfl
    | i + 1, hy =>
      have hy2 : (List.replicate n.toNatClampNeg (Sum.inr (0, k'.toNatClampNeg, []) : bE))[i]? = some y := hy
      rw [List.getElem?_replicate] at hy2
      split at hy2
      · rename_i hj
        cases hy2
        show F.heap[z + w.length + (i + 1)]? = some (vp_cell (G.2.2.1 0) (k'.toNatClampNeg, bcon z 0 []))
        rw [bcon_new (by omega), ← hM.1, show H.size + (i + 1) = H.size + 1 + i by omega, hrow i hj]
        show some ({ cls := _, slots := Array.replicate _ _, vm := .none } : Cell) = _
        rw [arrV_new]
        rfl
      · cases hy2
  obtain ⟨t, a1, b1⟩ := kk F.heap hM1 (b_Sn hS z1 hold) F rfl (by rw [← Nat.add_assoc, ← Nat.add_assoc]; exact X')
  refine ⟨t, step t ?_, b1⟩
  rw [hT, hM.1]
  exact a1
theorem bs_multi {x d : Nat} (C : bCx G z p l s m args meth c cc own nL) (hd : decode cc pc = .ok (.multianewarray x d, ln)) (hk : bok own nL Z pc ln (.multianewarray x d, nx, a, b, v, ts) = true) (hE : E.2 = (MC, MS)) (hR : MC ≤ R.cells ∧ MS ≤ R.slots) (hmu : Z.2.2.2.2.2.2 ≠ 0 → Jvm.Cond.classLink own Z.2.2.2.2.2.2 ("[" ++ (FieldType.array .int).toString) ∈ fT) (K : bGo p l e R s m args below meth c G z nL MC MS res k) (h : bstep E (.multianewarray x d, nx, a, b, v, ts) L S w k1 n1 k = some res) (hs : bSt G z s nL MC MS L w k1 n1 H locs ls) :
    W p l e R s m args below meth c H locs k1 n1 (MQ below (bQ G z res) args s MC MS (bA z)) (F0 m pc ls (S.map (ftv (gBz G z)))) := by
  obtain ⟨hx, hb, hml, hown, hts, hlocks, hP, hz1, hz2⟩ := id C
  obtain ⟨hM, hS, hl, hk1, hn1⟩ := hs
  simp only [bok, Bool.and_eq_true, Bool.or_eq_true, decide_eq_true_eq] at hk
  obtain ⟨rfl, rfl, rfl, rfl, hx0⟩ := hk
  simp only [bstep] at h
  split at h
  · rename_i m' n S'
    split at h
    · cases h
    rename_i hn
    cases hb0 : (Nat.ble (k1 + (1 + n.toNatClampNeg)) E.2.1 && Nat.ble (n1 + (n.toNatClampNeg + n.toNatClampNeg * m'.toNatClampNeg)) E.2.2) <;> rw [hb0] at h
    · cases h
    rw [hE, Bool.and_eq_true] at hb0
    have g1 := Nat.le_of_ble_eq_true hb0.1
    have g2 := Nat.le_of_ble_eq_true hb0.2
    exact b_grid C hM hS (hmu hx0) (fun q => hn (Or.inl q)) (Nat.not_lt.mp fun q => hn (Or.inr (Or.inl q))) (fun q => hn (Or.inr (Or.inr (Or.inl q)))) (Nat.not_lt.mp fun q => hn (Or.inr (Or.inr (Or.inr q)))) (by omega) (by omega) hd (fun H1 hM1 hS1 => K _ L (bR w.length :: S') _ _ _ H1 locs ls h ⟨hM1, hS1, hl, g1, g2⟩)
  · cases h
theorem bs_iastore (C : bCx G z p l s m args meth c cc own nL) (hd : decode cc pc = .ok (.iastore, ln)) (hk : bok own nL Z pc ln (.iastore, nx, a, b, v, ts) = true) (K : bGo p l e R s m args below meth c G z nL MC MS res k) (h : bstep E (.iastore, nx, a, b, v, ts) L S w k1 n1 k = some res) (hs : bSt G z s nL MC MS L w k1 n1 H locs ls) :
    W p l e R s m args below meth c H locs k1 n1 (MQ below (bQ G z res) args s MC MS (bA z)) (F0 m pc ls (S.map (ftv (gBz G z)))) := by
  obtain ⟨hx, hb, hml, hown, hts, hlocks, hP, hz1, hz2⟩ := id C
  obtain ⟨hM, hS, hl, hk1, hn1⟩ := hs
  simp only [bok, Bool.and_eq_true, Bool.or_eq_true, decide_eq_true_eq] at hk
  obtain ⟨rfl, rfl⟩ := hk
  simp only [bstep] at h
  split at h
  · rename_i x i q0 q q2 S'
    split at h
    · rename_i t n l0 hw
      split at h
      · rename_i hc
        obtain ⟨rfl, hc⟩ := hc
        have ha : H[z + q]? = some (vp_cell (G.2.2.1 0) (n, bcon z 0 l0)) := bM_at hM hw
        refine W.iast hx hb ha ((hP.1.2 0 _ (ftys_at G 0 (by omega))).1 n (fun j => .int (bnum l0 j))) (fun q => by cases q) (by show ¬ (i < 0 ∨ (arrV _ _ _).slots.size ≤ _); rw [arrV_size]; exact hc) rfl rfl hd fun H1 e z1 oq => ?_
        refine K _ L S' _ k1 n1 H1 _ ls h ⟨bM_set hM (List.getElem?_eq_some_iff.mp hw).1 z1 oq ?_, b_S hS z1 oq, hl, hk1, hn1⟩
        show H1[z + q]? = some (vp_cell (G.2.2.1 0) (n, bcon z 0 _))
        rw [e]
        show some ((arrV _ _ _).setSlot _ _) = some (arrV _ _ (fun j => .int (bnum ((i.toNatClampNeg, vI (x)) :: l0) j)))
        rw [arrV_store]
        refine congrArg some (congrArg (arrV _ _) (funext fun j => ?_))
        unfold updV bnum
        rw [blk_cons]
        by_cases hj : j = i.toNatClampNeg
        · subst hj
          rw [if_pos rfl, Nat.beq_refl]
          rfl
        · have hb2 : Nat.beq i.toNatClampNeg j = false := by
            cases h9 : Nat.beq i.toNatClampNeg j
            · rfl
            · exact absurd (Nat.eq_of_beq_eq_true h9).symm hj
          rw [if_neg hj]
          simp only [hb2, cond_false]
      · cases h
    · cases h
  · cases h
theorem bs_castore (C : bCx G z p l s m args meth c cc own nL) (hd : decode cc pc = .ok (.castore, ln)) (hk : bok own nL Z pc ln (.castore, nx, a, b, v, ts) = true) (K : bGo p l e R s m args below meth c G z nL MC MS res k) (h : bstep E (.castore, nx, a, b, v, ts) L S w k1 n1 k = some res) (hs : bSt G z s nL MC MS L w k1 n1 H locs ls) :
    W p l e R s m args below meth c H locs k1 n1 (MQ below (bQ G z res) args s MC MS (bA z)) (F0 m pc ls (S.map (ftv (gBz G z)))) := by
  obtain ⟨hx, hb, hml, hown, hts, hlocks, hP, hz1, hz2⟩ := id C
  obtain ⟨hM, hS, hl, hk1, hn1⟩ := hs
  simp only [bok, Bool.and_eq_true, Bool.or_eq_true, decide_eq_true_eq] at hk
  obtain ⟨rfl, rfl⟩ := hk
  simp only [bstep] at h
  split at h
  · rename_i x i q0 q q2 S'
    split at h
    · rename_i t n l0 hw
      split at h
      · rename_i hc
        obtain ⟨rfl, hc⟩ := hc
        have ha : H[z + q]? = some (vp_cell (G.2.2.1 2) (n, bcon z 2 l0)) := bM_at hM hw
        refine W.cast hx hb ha ((hP.1.2 2 _ (ftys_at G 2 (by omega))).1 n (fun j => .int (bnum l0 j))) (fun q => by cases q) (by show ¬ (i < 0 ∨ (arrV _ _ _).slots.size ≤ _); rw [arrV_size]; exact hc) rfl rfl hd fun H1 e z1 oq => ?_
        refine K _ L S' _ k1 n1 H1 _ ls h ⟨bM_set hM (List.getElem?_eq_some_iff.mp hw).1 z1 oq ?_, b_S hS z1 oq, hl, hk1, hn1⟩
        show H1[z + q]? = some (vp_cell (G.2.2.1 2) (n, bcon z 2 _))
        rw [e]
        show some ((arrV _ _ _).setSlot _ _) = some (arrV _ _ (fun j => .int (bnum ((i.toNatClampNeg, vI (fnar 2 x)) :: l0) j)))
        rw [arrV_store]
        refine congrArg some (congrArg (arrV _ _) (funext fun j => ?_))
        unfold updV bnum
        rw [blk_cons]
        by_cases hj : j = i.toNatClampNeg
        · subst hj
          rw [if_pos rfl, Nat.beq_refl]
          rfl
        · have hb2 : Nat.beq i.toNatClampNeg j = false := by
            cases h9 : Nat.beq i.toNatClampNeg j
            · rfl
            · exact absurd (Nat.eq_of_beq_eq_true h9).symm hj
          rw [if_neg hj]
          simp only [hb2, cond_false]
      · cases h
    · cases h
  · cases h
theorem b_aast {q j t c0 n : Nat} {C0 : String} {l0 : List (Nat × fV)} {fs : List (Option fV)} {i : Int32} {rest : List Value} {Q : State → Prop} (C : bCx G z p l s m args meth c cc own nL) (hM : bM G z w H) (hS : va_S (bA z) s.heap H locs) (hw : w[q]? = some (.inr (t, n, l0))) (hj : w[j]? = some (.inl (c0, fs))) (ht : t = 5 ∧ c0 = 1 ∨ t = 6 ∧ c0 = 6) (hin9 : fin i n) (hd : decode cc pc = .ok (.aastore, 1))
    (kk : ∀ (H1 : Heap) (locs1 : List Loc), bM G z (w.set q (.inr (t, n, (i.toNatClampNeg, bR j) :: l0))) H1 → va_S (bA z) s.heap H1 locs1 → W p l e R s m args below meth c H1 locs1 k1 n1 Q (F0 m (pc + 1) ls rest)) : W p l e R s m args below meth c H locs k1 n1 Q (F0 m pc ls (.ref (z + j) :: .int i :: .ref (z + q) :: rest)) := by
  obtain ⟨hx, hb, hml, hown, hts, hlocks, hP, hz1, hz2⟩ := id C
  have hc10 : c0 < 10 := by omega
  have ht9 : t < 9 := by omega
  have hlt : i.toNatClampNeg < n := Nat.not_le.mp fun q => hin9 (Or.inr q)
  have h0 : ¬ i < 0 := fun q => hin9 (Or.inl q)
  have hty : fty.getD t .int = .object (fct c0).1 := by rcases ht with ⟨rfl, rfl⟩ | ⟨rfl, rfl⟩ <;> rfl
  obtain ⟨r, hr', cellV, g1, g2, g3, -⟩ := bM_at hM hj
  have hcls := (hP.1.1 c0 _ (bcl_at c0 hc10)).2
  have h9 := (hP.1.2 t _ (ftys_at G t ht9)).2
  rw [hty] at h9
  obtain ⟨kA, comp, y1, y2, y3, -⟩ := h9
  have hcomp : comp = G.2.1.1 c0 := Option.some.inj (y3.symm.trans hcls.1)
  subst hcomp
  have hcl2 := hcls
  obtain ⟨-, kC, hkC, -⟩ := hcl2
  have ha : H[z + q]? = some (arrV (G.2.2.1 t) n (fun j => va_rf ((bref l0 j).map (fun i => z + i)))) := by
    have h8 : H[z + q]? = some (vp_cell (G.2.2.1 t) (n, bcon z t l0)) := bM_at hM hw
    rw [h8]
    rcases ht with ⟨rfl, -⟩ | ⟨rfl, -⟩ <;> rfl
  refine W.aast hx hb ha (fun q h => by cases h) (fun h => by cases h) y1 y2 rfl hkC ⟨h0, by show _ < (arrV _ _ _).slots.size; rw [arrV_size]; exact hlt⟩ g1 (fun q h => by rw [g3] at h; cases h) (by rw [g2]; exact hkC) (by rw [g2]; exact va_assign hcls) rfl rfl hd fun H1 e z1 oq => ?_
  refine kk H1 _ (bM_set hM (List.getElem?_eq_some_iff.mp hw).1 z1 oq ?_) (b_S hS z1 oq)
  show H1[z + q]? = some (vp_cell (G.2.2.1 t) (n, bcon z t _))
  rw [e, arrV_store]
  have hvc : ∀ l9, vp_cell (G.2.2.1 t) (n, bcon z t l9) = arrV (G.2.2.1 t) n (fun j => va_rf ((bref l9 j).map (fun i => z + i))) := fun l9 => by
    rcases ht with ⟨rfl, -⟩ | ⟨rfl, -⟩ <;> rfl
  rw [hvc]
  refine congrArg some (congrArg (arrV _ _) (funext fun j' => ?_))
  unfold updV bref
  rw [blk_cons]
  by_cases hj' : j' = i.toNatClampNeg
  · subst hj'
    rw [if_pos rfl, Nat.beq_refl]
    rfl
  · have hb2 : Nat.beq i.toNatClampNeg j' = false := by
      cases h9 : Nat.beq i.toNatClampNeg j'
      · rfl
      · exact absurd (Nat.eq_of_beq_eq_true h9).symm hj'
    rw [if_neg hj']
    simp only [hb2, cond_false]
theorem bs_aastore (C : bCx G z p l s m args meth c cc own nL) (hd : decode cc pc = .ok (.aastore, ln)) (hk : bok own nL Z pc ln (.aastore, nx, a, b, v, ts) = true) (K : bGo p l e R s m args below meth c G z nL MC MS res k) (h : bstep E (.aastore, nx, a, b, v, ts) L S w k1 n1 k = some res) (hs : bSt G z s nL MC MS L w k1 n1 H locs ls) :
    W p l e R s m args below meth c H locs k1 n1 (MQ below (bQ G z res) args s MC MS (bA z)) (F0 m pc ls (S.map (ftv (gBz G z)))) := by
  obtain ⟨hx, hb, hml, hown, hts, hlocks, hP, hz1, hz2⟩ := id C
  obtain ⟨hM, hS, hl, hk1, hn1⟩ := hs
  simp only [bok, Bool.and_eq_true, Bool.or_eq_true, decide_eq_true_eq] at hk
  obtain ⟨rfl, rfl⟩ := hk
  simp only [bstep] at h
  split at h
  · rename_i q1 j q3 i q0 q q2 S'
    split at h
    · rename_i t n l0 hw
      split at h
      · rename_i c0 fs hj
        split at h
        · rename_i hc
          refine b_aast (C0 := "") C hM hS hw hj hc.1 hc.2 hd (fun H1 locs1 hM1 hS1 => ?_)
          exact K _ L S' _ k1 n1 H1 locs1 ls h ⟨hM1, hS1, hl, hk1, hn1⟩
        · cases h
      · cases h
    · cases h
  · cases h
theorem bs_special {x : Nat} (C : bCx G z p l s m args meth c cc own nL) (hd : decode cc pc = .ok (.invokespecial x, ln)) (hk : bok own nL Z pc ln (.invokespecial x, nx, a, b, v, ts) = true) (hE : E.2 = (MC, MS)) (hR : MC ≤ R.cells ∧ MS ≤ R.slots) (hoi : Z.1 ≠ 0 → Jvm.Cond.methodLink own Z.1 Lib.objectInit ∈ fT) (hcs : ∀ q ∈ Z.2.2.2.1, ∃ f, E.1[q.2]? = some f ∧ bCS G l own cc nL R q.1 f) (hfl : 1 ≤ R.frames ∧ 100 ≤ R.locals) (K : bGo p l e R s m args below meth c G z nL MC MS res k) (h : bstep E (.invokespecial x, nx, a, b, v, ts) L S w k1 n1 k = some res) (hs : bSt G z s nL MC MS L w k1 n1 H locs ls) :
    W p l e R s m args below meth c H locs k1 n1 (MQ below (bQ G z res) args s MC MS (bA z)) (F0 m pc ls (S.map (ftv (gBz G z)))) := by
  obtain ⟨hx, hb, hml, hown, hts, hlocks, hP, hz1, hz2⟩ := id C
  obtain ⟨hM, hS, hl, hk1, hn1⟩ := hs
  simp only [bok, Bool.and_eq_true, Bool.or_eq_true, decide_eq_true_eq] at hk
  obtain ⟨rfl, rfl, hm⟩ := hk
  simp only [bstep] at h
  cases ha : Nat.beq a 0 <;> rw [ha] at h hm
  · simp only [cond_false] at h hm
    obtain ⟨f, hf, hF⟩ := hcs _ (of_decide_eq_true hm)
    rw [show E.1[a - 1]? = some f from hf] at h
    simp only at h
    split at h
    · rename_i q0 i q1 S2 hS2
      cases hc : (beqVs (S.take f.2.1.length).reverse f.2.1 && (Nat.beq (i + 1) w.length && bisE w[i]? (.inl (f.1, binit f.1)))) <;> rw [hc] at h
      · cases h
      · rw [Bool.and_eq_true, Bool.and_eq_true] at hc
        have hc1 := beqVs_ok hc.1
        have hc2 := Nat.eq_of_beq_eq_true hc.2.1
        have hc3 := bisE_ok hc.2.2
        simp only [cond_true] at h
        cases hb0 : (Nat.ble (k1 + f.2.2.2.1) E.2.1 && (Nat.ble (n1 + f.2.2.2.2) E.2.2 && Nat.ble (fcats S2) 8)) <;> rw [hb0] at h
        · cases h
        rw [hE, Bool.and_eq_true, Bool.and_eq_true] at hb0
        have g1 := Nat.le_of_ble_eq_true hb0.1
        have g2 := Nat.le_of_ble_eq_true hb0.2.1
        have g3 := Nat.le_of_ble_eq_true hb0.2.2
        have hSe : S.map (ftv (gBz G z)) = (f.2.1.reverse ++ bR i :: S2).map (ftv (gBz G z)) := by
          have h9 : S = S.take f.2.1.length ++ S.drop f.2.1.length := (List.take_append_drop _ _).symm
          rw [h9, hS2, ← hc1, List.reverse_reverse]
          simp only [List.map_append, List.map_cons]
          congr 1
          simp [List.length_take]
        rw [hSe]
        refine hF p e s m args below meth c z H locs k1 n1 _ pc ls C hd hl.1 S2 i w hc2 hc3 g3 hM hS (by omega) (by omega) (fun H1 locs1 hM1 hS1 => ?_)
        exact K _ L S2 _ _ _ H1 locs1 ls h ⟨hM1, hS1, hl, g1, g2⟩
    · cases h
  · simp only [cond_true, Bool.and_eq_true, decide_eq_true_eq] at h hm
    obtain ⟨hm, hm0⟩ := hm
    split at h
    · rename_i r S'
      cases hb0 : Nat.ble (fcats S') 8 <;> rw [hb0] at h
      · cases h
      have g3 := Nat.le_of_ble_eq_true hb0
      subst hm
      refine W.objInit hx hb hown (hts _ (hoi hm0)) (hts _ bw_oi) (hts _ bw_oc) (g := F0 m pc ls (ftv (gBz G z) (.inl r) :: S'.map (ftv (gBz G z)))) rfl (hl.1.trans hml.symm) (a := z + r.2.1) (rest := S'.map (ftv (gBz G z))) rfl hd hfl.1 (by rw [fcats_sum]; show 2 * 0 + _ + 12 ≤ _; omega) ?_
      exact K _ L S' w k1 n1 H locs ls h ⟨hM, hS, hl, hk1, hn1⟩
    · cases h
theorem bs_static {x : Nat} (C : bCx G z p l s m args meth c cc own nL) (hd : decode cc pc = .ok (.invokestatic x, ln)) (hk : bok own nL Z pc ln (.invokestatic x, nx, a, b, v, ts) = true) (hR : MC ≤ R.cells ∧ MS ≤ R.slots) (hmm : Z.2.1 ≠ 0 → Jvm.Cond.methodLink own Z.2.1 Lib.Math.min.name ∈ fT) (hfl : 1 ≤ R.frames ∧ 100 ≤ R.locals) (K : bGo p l e R s m args below meth c G z nL MC MS res k) (h : bstep E (.invokestatic x, nx, a, b, v, ts) L S w k1 n1 k = some res) (hs : bSt G z s nL MC MS L w k1 n1 H locs ls) :
    W p l e R s m args below meth c H locs k1 n1 (MQ below (bQ G z res) args s MC MS (bA z)) (F0 m pc ls (S.map (ftv (gBz G z)))) := by
  obtain ⟨hx, hb, hml, hown, hts, hlocks, hP, hz1, hz2⟩ := id C
  obtain ⟨hM, hS, hl, hk1, hn1⟩ := hs
  simp only [bok, Bool.and_eq_true, Bool.or_eq_true, decide_eq_true_eq] at hk
  obtain ⟨rfl, rfl, rfl, hx0⟩ := hk
  simp only [bstep] at h
  split at h
  · rename_i y x S'
    cases hb0 : Nat.ble (fcats S') 8 <;> rw [hb0] at h
    · cases h
    have g3 := Nat.le_of_ble_eq_true hb0
    refine va_mmin hx hb (hml.trans hl.1.symm) hown (hts _ (hmm hx0)) (hts _ bw_m1) (hts _ bw_m2) (hts _ bw_m3) hfl.1 (by rw [fcats_sum]; omega) (by omega) (by omega) hd ?_
    exact K _ L (vI (if y < x then y else x) :: S') w k1 n1 H locs ls h ⟨hM, hS, hl, hk1, hn1⟩
  · cases h
theorem bs_return (C : bCx G z p l s m args meth c cc own nL) (hr : meth.sig.returnType = none) (hd : decode cc pc = .ok (.return_, ln)) (hk : bok own nL Z pc ln (.return_, nx, a, b, v, ts) = true) (h : bstep E (.return_, nx, a, b, v, ts) L S w k1 n1 k = some res) (hs : bSt G z s nL MC MS L w k1 n1 H locs ls) :
    W p l e R s m args below meth c H locs k1 n1 (MQ below (bQ G z res) args s MC MS (bA z)) (F0 m pc ls (S.map (ftv (gBz G z)))) := by
  obtain ⟨hx, hb, hml, hown, hts, hlocks, hP, hz1, hz2⟩ := id C
  obtain ⟨hM, hS, hl, hk1, hn1⟩ := hs
  simp only [bok, decide_eq_true_eq] at hk
  subst hk
  simp only [bstep] at h
  split at h
  · cases h
    refine W.widen hk1 hn1 ?_
    exact W.vret hx hb hr (fun t ht hW => ⟨rfl, by rw [ht]; exact hM, by rw [ht]; exact hS.1, fun q h1 h2 => by rw [ht]; exact hS.2.1 q h1 h2⟩) hS.2.2 hd hlocks
  · cases h
theorem bsound {t : fTb} (C : bCx G z p l s m args meth c cc own nL) (hin : meth.name = "<init>") (hT : bokT cc own nL Z t = true) (hr : meth.sig.returnType = none) (hE : E.2 = (MC, MS)) (hR : MC ≤ R.cells ∧ MS ≤ R.slots) (hZ : bHZ G l own cc nL R E Z) : ∀ n, bGo p l e R s m args below meth c G z nL MC MS res (brun E t n) := by
  obtain ⟨y1, y2, y3, y4, y5, y6, y7, y8⟩ := hZ
  intro n
  induction n with
  | zero => intro pc L S w k1 n1 H locs ls h; cases h
  | succ n K =>
    intro pc L S w k1 n1 H locs ls h hs
    unfold brun at h
    cases ho : flk t pc with
    | none => rw [ho] at h; cases h
    | some o =>
      rw [ho] at h
      obtain ⟨ln, hd, hk⟩ := bokT_at hT ho
      obtain ⟨ins, nx, a, b, v, ts⟩ := o
      simp only at h hd
      cases ins
      case iconst => exact bs_iconst C hd hk K h hs
      case bipush => exact bs_bipush C hd hk K h hs
      case sipush => exact bs_sipush C hd hk K h hs
      case getstatic => exact bs_getstatic C hd hk K h hs
      case iload_n => exact bs_iload_n C hd hk K h hs
      case aload_n => exact bs_aload_n C hd hk K h hs
      case istore_n => exact bs_istore_n C hd hk K h hs
      case iinc => exact bs_iinc C hd hk K h hs
      case iadd => exact bs_iadd C hd hk K h hs
      case isub => exact bs_isub C hd hk K h hs
      case imul => exact bs_imul C hd hk K h hs
      case dup => exact bs_dup C hd hk K h hs
      case if_icmp => exact bs_icmp C hd hk K h hs
      case ifCond => exact bs_ifc C hd hk K h hs
      case goto => exact bs_goto C hd hk K h hs
      case getfield => exact bs_getfield C hd hk y3 K h hs
      case putfield => exact bs_putfield C hd hk hin y3 K h hs
      case new => exact bs_new C hd hk hE hR y5 K h hs
      case newarray => exact bs_newarray C hd hk hE hR K h hs
      case anewarray => exact bs_anewarray C hd hk hE hR y6 K h hs
      case multianewarray => exact bs_multi C hd hk hE hR y7 K h hs
      case iastore => exact bs_iastore C hd hk K h hs
      case castore => exact bs_castore C hd hk K h hs
      case aastore => exact bs_aastore C hd hk K h hs
      case invokespecial => exact bs_special C hd hk hE hR y1 y4 y8 K h hs
      case invokestatic => exact bs_static C hd hk hR y2 y8 K h hs
      case return_ => exact bs_return C hr hd hk h hs
      all_goals cases h
end BSND
