/-! FLAT MEMORY: every int, long and double of the worlds at (kind, yard, place, slot); references are (kind, yard, place) -/
abbrev fV : Type := (Nat × Nat × Nat) ⊕ (Int32 ⊕ (Int64 ⊕ UInt64))
abbrev fM : Type := (Nat → Nat → Nat → Nat → Int32) × (Nat → Nat → Nat → Nat → Int64) × (Nat → Nat → Nat → Nat → UInt64)
abbrev vR (c y h : Nat) : fV := Sum.inl (c, y, h)
abbrev vI (x : Int32) : fV := Sum.inr (Sum.inl x)
abbrev vL (x : Int64) : fV := Sum.inr (Sum.inr (Sum.inl x))
abbrev vD (x : UInt64) : fV := Sum.inr (Sum.inr (Sum.inr x))
/-- what a method answers: a value or none (.inl), or the number of the exception that it throws (.inr); and the memory behind it -/
abbrev fR : Type := (Option fV ⊕ Nat) × fM
abbrev fS : Type := List fV → fM → Option fR
def fI (μ : fM) (c y h k : Nat) (v : Int32) : fM := (fun c' y' h' k' => if c' = c ∧ k' = k ∧ y' = y ∧ h' = h then v else μ.1 c' y' h' k', μ.2)
def fJ (μ : fM) (c y h k : Nat) (v : Int64) : fM := (μ.1, fun c' y' h' k' => if c' = c ∧ k' = k ∧ y' = y ∧ h' = h then v else μ.2.1 c' y' h' k', μ.2.2)
def fD (μ : fM) (c y h k : Nat) (v : UInt64) : fM := (μ.1, μ.2.1, fun c' y' h' k' => if c' = c ∧ k' = k ∧ y' = y ∧ h' = h then v else μ.2.2 c' y' h' k')
/-- the exceptions by their numbers -/
def fexn : List String := ["java/lang/IndexOutOfBoundsException", "java/lang/IllegalArgumentException", "java/lang/IllegalStateException", "java/lang/UnsupportedOperationException", "java/util/NoSuchElementException", "java/lang/ArithmeticException"]
def fcl : List vw_C := [(RX0, TX0, 3), (RX1, TX1, 7), (RX2, TX2, 7), (RX3, TX3, 7), (RX4, TX4, 3), (RX5, TX5, 1), (RX6, TX6, 7), (RX7, TX7, 13), (RX8, TX8, 24), (RJ4, TJ4, 4)]
/-- the fields' codes: 0 int, 1 boolean, 2 long, 3 reference -/
def fkfL : List (List Nat) := [[3, 0, 0], [3, 3, 3, 0, 0, 0, 0], [3, 3, 3, 3, 3, 0, 0], [3, 0, 3, 3, 0, 0, 0], [3, 3, 3], [3], [3, 3, 3, 3, 0, 0, 2], [3, 3, 3, 1, 3, 3, 3, 0, 0, 0, 3, 3, 3], [3, 3, 3, 1, 3, 0, 0, 0, 0, 0, 3, 0, 3, 0, 2, 3, 0, 3, 3, 3, 0, 0, 0, 1]]
/-- where a field that is a reference points: kind, and yard and place, each the object's own (1) or a constant -/
def frfL : List (List (Nat × Nat × Nat × Nat × Nat)) := [[(29, 0, 0, 0, 0), (0, 0, 0, 0, 0), (0, 0, 0, 0, 0)], [(10, 1, 0, 1, 0), (11, 1, 0, 1, 0), (12, 1, 0, 1, 0), (0, 0, 0, 0, 0), (0, 0, 0, 0, 0), (0, 0, 0, 0, 0), (0, 0, 0, 0, 0)], [(16, 1, 0, 1, 0), (17, 1, 0, 1, 0), (18, 1, 0, 1, 0), (19, 1, 0, 1, 0), (20, 1, 0, 1, 0), (0, 0, 0, 0, 0), (0, 0, 0, 0, 0)], [(21, 0, 0, 0, 0), (0, 0, 0, 0, 0), (22, 0, 0, 0, 0), (23, 0, 0, 0, 0), (0, 0, 0, 0, 0), (0, 0, 0, 0, 0), (0, 0, 0, 0, 0)], [(24, 0, 0, 0, 0), (25, 0, 0, 0, 0), (26, 0, 0, 0, 0)], [(27, 0, 0, 0, 0)], [(13, 1, 0, 1, 0), (14, 1, 0, 1, 0), (15, 1, 0, 1, 0), (2, 1, 0, 1, 0), (0, 0, 0, 0, 0), (0, 0, 0, 0, 0), (0, 0, 0, 0, 0)], [(6, 0, 0, 0, 0), (0, 0, 0, 0, 0), (6, 0, 1, 0, 0), (0, 0, 0, 0, 0), (3, 0, 0, 0, 0), (6, 0, 2, 0, 0), (51, 0, 0, 0, 0), (0, 0, 0, 0, 0), (0, 0, 0, 0, 0), (0, 0, 0, 0, 0), (5, 0, 0, 0, 0), (4, 0, 0, 0, 0), (1, 0, 11, 0, 0)], [(30, 0, 0, 0, 0), (31, 0, 0, 0, 0), (32, 0, 0, 0, 0), (0, 0, 0, 0, 0), (33, 0, 0, 0, 0), (0, 0, 0, 0, 0), (0, 0, 0, 0, 0), (0, 0, 0, 0, 0), (0, 0, 0, 0, 0), (0, 0, 0, 0, 0), (34, 0, 0, 0, 0), (0, 0, 0, 0, 0), (35, 0, 0, 0, 0), (0, 0, 0, 0, 0), (0, 0, 0, 0, 0), (36, 0, 0, 0, 0), (0, 0, 0, 0, 0), (37, 0, 0, 0, 0), (38, 0, 0, 0, 0), (39, 0, 0, 0, 0), (0, 0, 0, 0, 0), (0, 0, 0, 0, 0), (0, 0, 0, 0, 0), (0, 0, 0, 0, 0)]]
def ftgt (q : Nat × Nat × Nat × Nat × Nat) (y h : Nat) : Nat × Nat × Nat := (q.1, bif Nat.beq q.2.1 1 then y else q.2.2.1, bif Nat.beq q.2.2.2.1 1 then h else q.2.2.2.2)
/-- the value of field k of the object (c, y, h) -/
def ffv (μ : fM) (c y h k : Nat) : fV := match (fkfL.getD c []).getD k 0 with
  | 0 => vI (μ.1 c y h k)
  | 1 => vI (μ.1 c y h k)
  | 2 => vL (μ.2.1 c y h k)
  | _ => Sum.inl (ftgt ((frfL.getD c []).getD k (0, 0, 0, 0, 0)) y h)
/-- arrays: code of the elements (0 int, 1 boolean, 2 char, 3 long, 4 double, 5 Hull, 6 Yard, 7 int[]) and length -/
def fal (c : Nat) : Nat × Nat := (bif Nat.ble c 25 then (bif Nat.ble c 17 then (bif Nat.ble c 13 then (bif Nat.ble c 11 then (bif Nat.ble c 10 then (bif Nat.beq c 10 then (0, 8) else (9, 0)) else (bif Nat.beq c 11 then (0, 8) else (9, 0))) else (bif Nat.ble c 12 then (bif Nat.beq c 12 then (0, 8) else (9, 0)) else (bif Nat.beq c 13 then (5, 6) else (9, 0)))) else (bif Nat.ble c 15 then (bif Nat.ble c 14 then (bif Nat.beq c 14 then (0, 12) else (9, 0)) else (bif Nat.beq c 15 then (0, 4) else (9, 0))) else (bif Nat.ble c 16 then (bif Nat.beq c 16 then (0, 6) else (9, 0)) else (bif Nat.beq c 17 then (0, 6) else (9, 0))))) else (bif Nat.ble c 21 then (bif Nat.ble c 19 then (bif Nat.ble c 18 then (bif Nat.beq c 18 then (0, 6) else (9, 0)) else (bif Nat.beq c 19 then (0, 6) else (9, 0))) else (bif Nat.ble c 20 then (bif Nat.beq c 20 then (1, 6) else (9, 0)) else (bif Nat.beq c 21 then (2, 60) else (9, 0)))) else (bif Nat.ble c 23 then (bif Nat.ble c 22 then (bif Nat.beq c 22 then (0, 12) else (9, 0)) else (bif Nat.beq c 23 then (0, 36) else (9, 0))) else (bif Nat.ble c 24 then (bif Nat.beq c 24 then (0, 4) else (9, 0)) else (bif Nat.beq c 25 then (1, 4) else (9, 0)))))) else (bif Nat.ble c 33 then (bif Nat.ble c 29 then (bif Nat.ble c 27 then (bif Nat.ble c 26 then (bif Nat.beq c 26 then (0, 64) else (9, 0)) else (bif Nat.beq c 27 then (7, 9) else (9, 0))) else (bif Nat.ble c 28 then (bif Nat.beq c 28 then (0, 9) else (9, 0)) else (bif Nat.beq c 29 then (6, 8) else (9, 0)))) else (bif Nat.ble c 31 then (bif Nat.ble c 30 then (bif Nat.beq c 30 then (0, 213) else (9, 0)) else (bif Nat.beq c 31 then (0, 213) else (9, 0))) else (bif Nat.ble c 32 then (bif Nat.beq c 32 then (0, 213) else (9, 0)) else (bif Nat.beq c 33 then (0, 1704) else (9, 0))))) else (bif Nat.ble c 37 then (bif Nat.ble c 35 then (bif Nat.ble c 34 then (bif Nat.beq c 34 then (0, 60) else (9, 0)) else (bif Nat.beq c 35 then (0, 8) else (9, 0))) else (bif Nat.ble c 36 then (bif Nat.beq c 36 then (0, 100) else (9, 0)) else (bif Nat.beq c 37 then (2, 66) else (9, 0)))) else (bif Nat.ble c 39 then (bif Nat.ble c 38 then (bif Nat.beq c 38 then (0, 12) else (9, 0)) else (bif Nat.beq c 39 then (0, 244) else (9, 0))) else (bif Nat.ble c 40 then (bif Nat.beq c 40 then (3, 1) else (9, 0)) else (bif Nat.beq c 41 then (4, 1) else (9, 0)))))))
def fel (c y i : Nat) : Nat × Nat × Nat := bif Nat.beq c 13 then (1, y, i) else bif Nat.beq c 29 then (6, 3 + i, 0) else (28, 0, i)
def frefs : List (Nat × Nat × Nat) := [(0, 0, 0), (1, 0, 0), (1, 0, 1), (1, 0, 2), (1, 0, 3), (1, 0, 4), (1, 0, 5), (1, 1, 0), (1, 1, 1), (1, 1, 2), (1, 1, 3), (1, 1, 4), (1, 1, 5), (1, 2, 0), (1, 2, 1), (1, 2, 2), (1, 2, 3), (1, 2, 4), (1, 2, 5), (1, 3, 0), (1, 3, 1), (1, 3, 2), (1, 3, 3), (1, 3, 4), (1, 3, 5), (1, 4, 0), (1, 4, 1), (1, 4, 2), (1, 4, 3), (1, 4, 4), (1, 4, 5), (1, 5, 0), (1, 5, 1), (1, 5, 2), (1, 5, 3), (1, 5, 4), (1, 5, 5), (1, 6, 0), (1, 6, 1), (1, 6, 2), (1, 6, 3), (1, 6, 4), (1, 6, 5), (1, 7, 0), (1, 7, 1), (1, 7, 2), (1, 7, 3), (1, 7, 4), (1, 7, 5), (1, 8, 0), (1, 8, 1), (1, 8, 2), (1, 8, 3), (1, 8, 4), (1, 8, 5), (1, 9, 0), (1, 9, 1), (1, 9, 2), (1, 9, 3), (1, 9, 4), (1, 9, 5), (1, 10, 0), (1, 10, 1), (1, 10, 2), (1, 10, 3), (1, 10, 4), (1, 10, 5), (1, 11, 0), (10, 0, 0), (10, 0, 1), (10, 0, 2), (10, 0, 3), (10, 0, 4), (10, 0, 5), (10, 1, 0), (10, 1, 1), (10, 1, 2), (10, 1, 3), (10, 1, 4), (10, 1, 5), (10, 2, 0), (10, 2, 1), (10, 2, 2), (10, 2, 3), (10, 2, 4), (10, 2, 5), (10, 3, 0), (10, 3, 1), (10, 3, 2), (10, 3, 3), (10, 3, 4), (10, 3, 5), (10, 4, 0), (10, 4, 1), (10, 4, 2), (10, 4, 3), (10, 4, 4), (10, 4, 5), (10, 5, 0), (10, 5, 1), (10, 5, 2), (10, 5, 3), (10, 5, 4), (10, 5, 5), (10, 6, 0), (10, 6, 1), (10, 6, 2), (10, 6, 3), (10, 6, 4), (10, 6, 5), (10, 7, 0), (10, 7, 1), (10, 7, 2), (10, 7, 3), (10, 7, 4), (10, 7, 5), (10, 8, 0), (10, 8, 1), (10, 8, 2), (10, 8, 3), (10, 8, 4), (10, 8, 5), (10, 9, 0), (10, 9, 1), (10, 9, 2), (10, 9, 3), (10, 9, 4), (10, 9, 5), (10, 10, 0), (10, 10, 1), (10, 10, 2), (10, 10, 3), (10, 10, 4), (10, 10, 5), (10, 11, 0), (11, 0, 0), (11, 0, 1), (11, 0, 2), (11, 0, 3), (11, 0, 4), (11, 0, 5), (11, 1, 0), (11, 1, 1), (11, 1, 2), (11, 1, 3), (11, 1, 4), (11, 1, 5), (11, 2, 0), (11, 2, 1), (11, 2, 2), (11, 2, 3), (11, 2, 4), (11, 2, 5), (11, 3, 0), (11, 3, 1), (11, 3, 2), (11, 3, 3), (11, 3, 4), (11, 3, 5), (11, 4, 0), (11, 4, 1), (11, 4, 2), (11, 4, 3), (11, 4, 4), (11, 4, 5), (11, 5, 0), (11, 5, 1), (11, 5, 2), (11, 5, 3), (11, 5, 4), (11, 5, 5), (11, 6, 0), (11, 6, 1), (11, 6, 2), (11, 6, 3), (11, 6, 4), (11, 6, 5), (11, 7, 0), (11, 7, 1), (11, 7, 2), (11, 7, 3), (11, 7, 4), (11, 7, 5), (11, 8, 0), (11, 8, 1), (11, 8, 2), (11, 8, 3), (11, 8, 4), (11, 8, 5), (11, 9, 0), (11, 9, 1), (11, 9, 2), (11, 9, 3), (11, 9, 4), (11, 9, 5), (11, 10, 0), (11, 10, 1), (11, 10, 2), (11, 10, 3), (11, 10, 4), (11, 10, 5), (11, 11, 0), (12, 0, 0), (12, 0, 1), (12, 0, 2), (12, 0, 3), (12, 0, 4), (12, 0, 5), (12, 1, 0), (12, 1, 1), (12, 1, 2), (12, 1, 3), (12, 1, 4), (12, 1, 5), (12, 2, 0), (12, 2, 1), (12, 2, 2), (12, 2, 3), (12, 2, 4), (12, 2, 5), (12, 3, 0), (12, 3, 1), (12, 3, 2), (12, 3, 3), (12, 3, 4), (12, 3, 5), (12, 4, 0), (12, 4, 1), (12, 4, 2), (12, 4, 3), (12, 4, 4), (12, 4, 5), (12, 5, 0), (12, 5, 1), (12, 5, 2), (12, 5, 3), (12, 5, 4), (12, 5, 5), (12, 6, 0), (12, 6, 1), (12, 6, 2), (12, 6, 3), (12, 6, 4), (12, 6, 5), (12, 7, 0), (12, 7, 1), (12, 7, 2), (12, 7, 3), (12, 7, 4), (12, 7, 5), (12, 8, 0), (12, 8, 1), (12, 8, 2), (12, 8, 3), (12, 8, 4), (12, 8, 5), (12, 9, 0), (12, 9, 1), (12, 9, 2), (12, 9, 3), (12, 9, 4), (12, 9, 5), (12, 10, 0), (12, 10, 1), (12, 10, 2), (12, 10, 3), (12, 10, 4), (12, 10, 5), (12, 11, 0), (2, 0, 0), (2, 1, 0), (2, 2, 0), (2, 3, 0), (2, 4, 0), (2, 5, 0), (2, 6, 0), (2, 7, 0), (2, 8, 0), (2, 9, 0), (2, 10, 0), (16, 0, 0), (16, 1, 0), (16, 2, 0), (16, 3, 0), (16, 4, 0), (16, 5, 0), (16, 6, 0), (16, 7, 0), (16, 8, 0), (16, 9, 0), (16, 10, 0), (17, 0, 0), (17, 1, 0), (17, 2, 0), (17, 3, 0), (17, 4, 0), (17, 5, 0), (17, 6, 0), (17, 7, 0), (17, 8, 0), (17, 9, 0), (17, 10, 0), (18, 0, 0), (18, 1, 0), (18, 2, 0), (18, 3, 0), (18, 4, 0), (18, 5, 0), (18, 6, 0), (18, 7, 0), (18, 8, 0), (18, 9, 0), (18, 10, 0), (19, 0, 0), (19, 1, 0), (19, 2, 0), (19, 3, 0), (19, 4, 0), (19, 5, 0), (19, 6, 0), (19, 7, 0), (19, 8, 0), (19, 9, 0), (19, 10, 0), (20, 0, 0), (20, 1, 0), (20, 2, 0), (20, 3, 0), (20, 4, 0), (20, 5, 0), (20, 6, 0), (20, 7, 0), (20, 8, 0), (20, 9, 0), (20, 10, 0), (6, 0, 0), (6, 1, 0), (6, 2, 0), (6, 3, 0), (6, 4, 0), (6, 5, 0), (6, 6, 0), (6, 7, 0), (6, 8, 0), (6, 9, 0), (6, 10, 0), (13, 0, 0), (13, 1, 0), (13, 2, 0), (13, 3, 0), (13, 4, 0), (13, 5, 0), (13, 6, 0), (13, 7, 0), (13, 8, 0), (13, 9, 0), (13, 10, 0), (14, 0, 0), (14, 1, 0), (14, 2, 0), (14, 3, 0), (14, 4, 0), (14, 5, 0), (14, 6, 0), (14, 7, 0), (14, 8, 0), (14, 9, 0), (14, 10, 0), (15, 0, 0), (15, 1, 0), (15, 2, 0), (15, 3, 0), (15, 4, 0), (15, 5, 0), (15, 6, 0), (15, 7, 0), (15, 8, 0), (15, 9, 0), (15, 10, 0), (3, 0, 0), (4, 0, 0), (5, 0, 0), (7, 0, 0), (8, 0, 0), (21, 0, 0), (22, 0, 0), (23, 0, 0), (24, 0, 0), (25, 0, 0), (26, 0, 0), (27, 0, 0), (29, 0, 0), (30, 0, 0), (31, 0, 0), (32, 0, 0), (33, 0, 0), (34, 0, 0), (35, 0, 0), (36, 0, 0), (37, 0, 0), (38, 0, 0), (39, 0, 0), (40, 0, 0), (41, 0, 0), (28, 0, 0), (28, 0, 1), (28, 0, 2), (28, 0, 3), (28, 0, 4), (28, 0, 5), (28, 0, 6), (28, 0, 7), (28, 0, 8)]
def ftag : fV → Nat
  | .inl _ => 0
  | .inr (.inl _) => 1
  | .inr (.inr (.inl _)) => 2
  | .inr (.inr (.inr _)) => 3
def fcat (v : fV) : Nat := bif Nat.ble 2 (ftag v) then 2 else 1
def fcats : List fV → Nat
  | [] => 0
  | v :: r => fcat v + fcats r
/-- an instruction as the flat machine takes it: itself, the next pc, two numbers, an int, a list -/
abbrev fO : Type := Instr × Nat × Nat × Nat × Int32 × List Nat
abbrev fK : Type := Nat → List (Option fV) → List fV → fM → Nat → Nat → Option fR
/-- callees (meaning, cells, slots), the method's own bounds of cells and slots, handlers (from, to, exception, pc behind its astore, its local), the law's script -/
abbrev fE : Type := List (fS × Nat × Nat) × (Nat × Nat) × List (Nat × Nat × Nat × Nat × Nat) × Option (Nat × (Nat → Int32))
def fload (L : List (Option fV)) (a t : Nat) (k : fV → Option fR) : Option fR := match L[a]? with
  | some (some v) => bif Nat.beq (ftag v) t then k v else none
  | _ => none
def fdrop (L : List (Option fV)) (a : Nat) : List (Option fV) := match a with
  | 0 => L
  | a' + 1 => match L[a']? with
    | some (some w) => bif Nat.ble 2 (ftag w) then L.set a' none else L
    | _ => L
def fput1 (L : List (Option fV)) (a : Nat) (v : Option fV) : List (Option fV) := (fdrop L a).set a v
def fput2 (L : List (Option fV)) (a : Nat) (v : fV) : List (Option fV) := ((fdrop L a).set a (some v)).set (a + 1) none
def fnar (b : Nat) (x : Int32) : Int32 := bif Nat.beq b 0 then x else bif Nat.beq b 1 then x &&& 1 else x.toUInt32.toUInt16.toUInt32.toInt32
def fcmp (q : ClassFile.Cond) (x y : Int32) (k1 k2 : Option fR) : Option fR := match q with
  | .eq => if x = y then k1 else k2
  | .ne => if x = y then k2 else k1
  | .lt => if x < y then k1 else k2
  | .ge => if y ≤ x then k1 else k2
  | .gt => if y < x then k1 else k2
  | .le => if x ≤ y then k1 else k2
def fhand : List (Nat × Nat × Nat × Nat × Nat) → Nat → Nat → Option (Nat × Nat)
  | [], _, _ => none
  | (f, t, e, nx, a) :: r, pc, x => bif Nat.ble f pc && (Nat.blt pc t && Nat.beq e x) then some (nx, a) else fhand r pc x
def fthrow (E : fE) (pc : Nat) (L : List (Option fV)) (μ : fM) (cc ss x : Nat) (k : fK) : Option fR := match E.2.2.1 with
  | [] => some (.inr x, μ)
  | _ => match fhand E.2.2.1 pc x with
    | some (nx, a) => k nx (fput1 L a none) [] μ cc ss
    | none => none
def fbind (q : Option fR) (k : fR → Option fR) : Option fR := match q with
  | none => none
  | some r => k r
def fcall (E : fE) (a b nx pc : Nat) (L : List (Option fV)) (S : List fV) (μ : fM) (cc ss : Nat) (k : fK) : Option fR := match E.1[a]? with
  | none => none
  | some f => bif Nat.ble (cc + f.2.1) E.2.1.1 && (Nat.ble (ss + f.2.2) E.2.1.2 && (Nat.ble b S.length && Nat.ble (fcats (S.drop b)) 8)) then
      fbind (f.1 (S.take b).reverse μ) (fun r => match r with
      | (.inl v, μ') => k nx L (v.toList ++ S.drop b) μ' (cc + f.2.1) (ss + f.2.2)
      | (.inr x, μ') => fthrow E pc L μ' (cc + f.2.1) (ss + f.2.2) x k)
    else none
/-- an int's place in an array of n -/
abbrev fin (i : Int32) (n : Nat) : Prop := ¬ (i < 0 ∨ n ≤ i.toNatClampNeg)
def fstep (E : fE) (o : fO) (pc : Nat) (L : List (Option fV)) (S : List fV) (μ : fM) (cc ss : Nat) (k : fK) : Option fR := match o with
  | (ins, nx, a, b, v, ts) => match ins with
    | .iconst _ => k nx L (vI v :: S) μ cc ss
    | .bipush _ => k nx L (vI v :: S) μ cc ss
    | .sipush _ => k nx L (vI v :: S) μ cc ss
    | .ldc _ => bif Nat.beq b 1 then k nx L (vI v :: S) μ cc ss else k nx L (vR 52 a 0 :: S) μ cc ss
    | .ldc_w _ => bif Nat.beq b 1 then k nx L (vI v :: S) μ cc ss else none
    | .lconst _ => k nx L (vL (Int64.ofNat a) :: S) μ cc ss
    | .ldc2_w _ => k nx L (vL (Int64.ofNat a) :: S) μ cc ss
    | .dconst _ => bif Nat.beq a 0 then k nx L (vD FP.dconst0 :: S) μ cc ss else none
    | .iload _ => fload L a 1 fun x => k nx L (x :: S) μ cc ss
    | .iload_n _ => fload L a 1 fun x => k nx L (x :: S) μ cc ss
    | .aload _ => fload L a 0 fun x => k nx L (x :: S) μ cc ss
    | .aload_n _ => fload L a 0 fun x => k nx L (x :: S) μ cc ss
    | .lload _ => fload L a 2 fun x => k nx L (x :: S) μ cc ss
    | .lload_n _ => fload L a 2 fun x => k nx L (x :: S) μ cc ss
    | .dload _ => fload L a 3 fun x => k nx L (x :: S) μ cc ss
    | .istore _ => match S with
      | .inr (.inl x) :: S => k nx (fput1 L a (some (vI x))) S μ cc ss
      | _ => none
    | .istore_n _ => match S with
      | .inr (.inl x) :: S => k nx (fput1 L a (some (vI x))) S μ cc ss
      | _ => none
    | .astore _ => match S with
      | .inl x :: S => k nx (fput1 L a (some (.inl x))) S μ cc ss
      | _ => none
    | .astore_n _ => match S with
      | .inl x :: S => k nx (fput1 L a (some (.inl x))) S μ cc ss
      | _ => none
    | .dstore _ => match S with
      | .inr (.inr (.inr x)) :: S => k nx (fput2 L a (vD x)) S μ cc ss
      | _ => none
    | .iinc _ _ => match L[a]? with
      | some (some (.inr (.inl x))) => k nx (fput1 L a (some (vI (x + v)))) S μ cc ss
      | _ => none
    | .iaload => match S with
      | .inr (.inl i) :: .inl (c, y, h) :: S => bif Nat.beq c 50 then (match E.2.2.2 with
            | some X => if fin i X.1 then k nx L (vI (X.2 i.toNatClampNeg) :: S) μ cc ss else none
            | none => none)
          else bif Nat.beq (fal c).1 0 then (if fin i (fal c).2 then k nx L (vI (μ.1 c y h i.toNatClampNeg) :: S) μ cc ss else none) else none
      | _ => none
    | .baload => match S with
      | .inr (.inl i) :: .inl (c, y, h) :: S => bif Nat.beq (fal c).1 1 then (if fin i (fal c).2 then k nx L (vI (μ.1 c y h i.toNatClampNeg) :: S) μ cc ss else none) else none
      | _ => none
    | .caload => match S with
      | .inr (.inl i) :: .inl (c, y, h) :: S => bif Nat.beq (fal c).1 2 then (if fin i (fal c).2 then k nx L (vI (μ.1 c y h i.toNatClampNeg) :: S) μ cc ss else none) else none
      | _ => none
    | .laload => match S with
      | .inr (.inl i) :: .inl (c, y, h) :: S => bif Nat.beq (fal c).1 3 then (if fin i (fal c).2 then k nx L (vL (μ.2.1 c y h i.toNatClampNeg) :: S) μ cc ss else none) else none
      | _ => none
    | .daload => match S with
      | .inr (.inl i) :: .inl (c, y, h) :: S => bif Nat.beq (fal c).1 4 then (if fin i (fal c).2 then k nx L (vD (μ.2.2 c y h i.toNatClampNeg) :: S) μ cc ss else none) else none
      | _ => none
    | .aaload => match S with
      | .inr (.inl i) :: .inl (c, y, _) :: S => bif Nat.ble 5 (fal c).1 && Nat.ble (fal c).1 7 then (if fin i (fal c).2 then k nx L (.inl (fel c y i.toNatClampNeg) :: S) μ cc ss else none) else none
      | _ => none
    | .iastore => match S with
      | .inr (.inl x) :: .inr (.inl i) :: .inl (c, y, h) :: S => bif Nat.beq (fal c).1 0 then (if fin i (fal c).2 then k nx L S (fI μ c y h i.toNatClampNeg x) cc ss else none) else none
      | _ => none
    | .bastore => match S with
      | .inr (.inl x) :: .inr (.inl i) :: .inl (c, y, h) :: S => bif Nat.beq (fal c).1 1 then (if fin i (fal c).2 then k nx L S (fI μ c y h i.toNatClampNeg (fnar 1 x)) cc ss else none) else none
      | _ => none
    | .castore => match S with
      | .inr (.inl x) :: .inr (.inl i) :: .inl (c, y, h) :: S => bif Nat.beq (fal c).1 2 then (if fin i (fal c).2 then k nx L S (fI μ c y h i.toNatClampNeg (fnar 2 x)) cc ss else none) else none
      | _ => none
    | .lastore => match S with
      | .inr (.inr (.inl x)) :: .inr (.inl i) :: .inl (c, y, h) :: S => bif Nat.beq (fal c).1 3 then (if fin i (fal c).2 then k nx L S (fJ μ c y h i.toNatClampNeg x) cc ss else none) else none
      | _ => none
    | .dastore => match S with
      | .inr (.inr (.inr x)) :: .inr (.inl i) :: .inl (c, y, h) :: S => bif Nat.beq (fal c).1 4 then (if fin i (fal c).2 then k nx L S (fD μ c y h i.toNatClampNeg x) cc ss else none) else none
      | _ => none
    | .arraylength => match S with
      | .inl (c, _, _) :: S => bif Nat.beq c 50 then (match E.2.2.2 with
          | some X => k nx L (vI (nI X.1) :: S) μ cc ss
          | none => none) else none
      | _ => none
    | .iadd => match S with
      | .inr (.inl y) :: .inr (.inl x) :: S => k nx L (vI (x + y) :: S) μ cc ss
      | _ => none
    | .isub => match S with
      | .inr (.inl y) :: .inr (.inl x) :: S => k nx L (vI (x - y) :: S) μ cc ss
      | _ => none
    | .imul => match S with
      | .inr (.inl y) :: .inr (.inl x) :: S => k nx L (vI (x * y) :: S) μ cc ss
      | _ => none
    | .idiv => match S with
      | .inr (.inl y) :: .inr (.inl x) :: S => if y = 0 then none else k nx L (vI (x / y) :: S) μ cc ss
      | _ => none
    | .irem => match S with
      | .inr (.inl y) :: .inr (.inl x) :: S => if y = 0 then none else k nx L (vI (x - x / y * y) :: S) μ cc ss
      | _ => none
    | .iand => match S with
      | .inr (.inl y) :: .inr (.inl x) :: S => k nx L (vI (x &&& y) :: S) μ cc ss
      | _ => none
    | .ior => match S with
      | .inr (.inl y) :: .inr (.inl x) :: S => k nx L (vI (x ||| y) :: S) μ cc ss
      | _ => none
    | .ixor => match S with
      | .inr (.inl y) :: .inr (.inl x) :: S => k nx L (vI (x ^^^ y) :: S) μ cc ss
      | _ => none
    | .ishl => match S with
      | .inr (.inl y) :: .inr (.inl x) :: S => k nx L (vI (x <<< (y &&& 31)) :: S) μ cc ss
      | _ => none
    | .ishr => match S with
      | .inr (.inl y) :: .inr (.inl x) :: S => k nx L (vI (x >>> (y &&& 31)) :: S) μ cc ss
      | _ => none
    | .iushr => match S with
      | .inr (.inl y) :: .inr (.inl x) :: S => k nx L (vI (x.toUInt32 >>> (y.toUInt32 &&& Int32.toUInt32 31)).toInt32 :: S) μ cc ss
      | _ => none
    | .ladd => match S with
      | .inr (.inr (.inl y)) :: .inr (.inr (.inl x)) :: S => k nx L (vL (x + y) :: S) μ cc ss
      | _ => none
    | .lcmp => match S with
      | .inr (.inr (.inl y)) :: .inr (.inr (.inl x)) :: S => k nx L (vI (lg_cmp x y) :: S) μ cc ss
      | _ => none
    | .i2l => match S with
      | .inr (.inl x) :: S => k nx L (vL x.toInt64 :: S) μ cc ss
      | _ => none
    | .l2i => match S with
      | .inr (.inr (.inl x)) :: S => k nx L (vI x.toInt32 :: S) μ cc ss
      | _ => none
    | .i2c => match S with
      | .inr (.inl x) :: S => k nx L (vI (x.toUInt32 % 65536).toInt32 :: S) μ cc ss
      | _ => none
    | .i2d => match S with
      | .inr (.inl x) :: S => k nx L (vD (FP.i2d x) :: S) μ cc ss
      | _ => none
    | .ddiv => match S with
      | .inr (.inr (.inr y)) :: .inr (.inr (.inr x)) :: S => if FP.ddiv x y &&& 0x7fffffffffffffff ≤ 0x7ff0000000000000 then k nx L (vD (FP.ddiv x y) :: S) μ cc ss else none
      | _ => none
    | .dcmp op => match S with
      | .inr (.inr (.inr y)) :: .inr (.inr (.inr x)) :: S => k nx L (vI (Op.cmpValue (FP.dcmp x y) op) :: S) μ cc ss
      | _ => none
    | .dup => match S with
      | x :: S => bif Nat.ble (ftag x) 1 then k nx L (x :: x :: S) μ cc ss else none
      | _ => none
    | .dup2 => match S with
      | x :: y :: S => bif Nat.ble (ftag x) 1 && Nat.ble (ftag y) 1 then k nx L (x :: y :: x :: y :: S) μ cc ss else none
      | _ => none
    | .pop => match S with
      | x :: S => bif Nat.ble (ftag x) 1 then k nx L S μ cc ss else none
      | _ => none
    | .if_icmp q _ => match S with
      | .inr (.inl y) :: .inr (.inl x) :: S => fcmp q x y (k a L S μ cc ss) (k nx L S μ cc ss)
      | _ => none
    | .ifCond q _ => match S with
      | .inr (.inl x) :: S => fcmp q x 0 (k a L S μ cc ss) (k nx L S μ cc ss)
      | _ => none
    | .goto _ => k a L S μ cc ss
    | .tableswitch _ _ _ _ => match S with
      | .inr (.inl x) :: S => if x.toInt < v.toInt ∨ (b : Int) < x.toInt then k a L S μ cc ss else k (ts.getD (x.toInt - v.toInt).toNat 0) L S μ cc ss
      | _ => none
    | .getfield _ => match S with
      | .inl (c, y, h) :: S => bif Nat.beq c a then (match ts with
          | [] => k nx L (vI (μ.1 a y h b) :: S) μ cc ss
          | [_] => k nx L (vL (μ.2.1 a y h b) :: S) μ cc ss
          | [c', my, oy, mh, oh] => k nx L (.inl (ftgt (c', my, oy, mh, oh) y h) :: S) μ cc ss
          | _ => none) else none
      | _ => none
    | .putfield _ => match S with
      | .inr (.inl x) :: .inl (c, y, h) :: S => bif Nat.beq c a then (match ts with
          | [] => k nx L S (fI μ a y h b x) cc ss
          | [_] => if x = 0 ∨ x = 1 then k nx L S (fI μ a y h b x) cc ss else none
          | _ => none) else none
      | .inr (.inr (.inl x)) :: .inl (c, y, h) :: S => bif Nat.beq c a then (match ts with
          | [_, _] => k nx L S (fJ μ a y h b x) cc ss
          | _ => none) else none
      | _ => none
    | .invokevirtual _ => fcall E a b nx pc L S μ cc ss k
    | .invokespecial _ => fcall E a b nx pc L S μ cc ss k
    | .invokestatic _ => fcall E a b nx pc L S μ cc ss k
    | .new _ => match E.2.2.1 with
      | [] => bif Nat.ble (cc + 1) E.2.1.1 && (Nat.ble (ss + 6) E.2.1.2 && Nat.ble (fcats S) 8) then some (.inr a, μ) else none
      | _ => none
    | .ireturn => match S with
      | [.inr (.inl x)] => some (.inl (some (vI (fnar b x))), μ)
      | _ => none
    | .lreturn => match S with
      | [.inr (.inr (.inl x))] => some (.inl (some (vL x)), μ)
      | _ => none
    | .dreturn => match S with
      | [.inr (.inr (.inr x))] => some (.inl (some (vD x)), μ)
      | _ => none
    | .areturn => match S with
      | [.inl x] => some (.inl (some (.inl x)), μ)
      | _ => none
    | .return_ => match S with
      | [] => some (.inl none, μ)
      | _ => none
    | _ => none
def flk1 : List (Nat × fO) → Nat → Option fO
  | [], _ => none
  | q :: r, pc => bif Nat.beq q.1 pc then some q.2 else flk1 r pc
abbrev fTb : Type := List (Nat × List (Nat × fO))
def flk : fTb → Nat → Option fO
  | [], _ => none
  | q :: r, pc => bif Nat.ble pc q.1 then flk1 q.2 pc else flk r pc
def frun (E : fE) (t : fTb) : Nat → fK
  | 0 => fun _ _ _ _ _ _ => none
  | n + 1 => fun pc L S μ cc ss => match flk t pc with
    | none => none
    | some o => fstep E o pc L S μ cc ss (frun E t n)
/-! WALKS OVER THE FLAT MACHINE: x n is the answer with n steps allowed -/
def fEnds (x : Nat → Option fR) (res : fR) : Prop := ∃ n, x n = some res
theorem fE_step {x y : Nat → Option fR} {res : fR} (k : Nat) (h : ∀ n, x (n + k) = y n) (H : fEnds y res) : fEnds x res := H.elim fun n hn => ⟨n + k, (h n).trans hn⟩
theorem fE_ret {x : Nat → Option fR} {res : fR} (k : Nat) (h : ∀ n, x (n + k) = some res) : fEnds x res := ⟨0 + k, h 0⟩
theorem fE_ite {x y z : Nat → Option fR} {res : fR} {c : Prop} {dc : Decidable c} (k : Nat) (h : ∀ n, x (n + k) = @ite _ c dc (y n) (z n)) (hy : c → fEnds y res) (hz : ¬ c → fEnds z res) : fEnds x res := by
  by_cases hc : c
  · exact fE_step k (fun n => by rw [h, if_pos hc]) (hy hc)
  · exact fE_step k (fun n => by rw [h, if_neg hc]) (hz hc)
theorem fE_pos {x y z : Nat → Option fR} {res : fR} {c : Prop} {dc : Decidable c} (hc : c) (k : Nat) (h : ∀ n, x (n + k) = @ite _ c dc (y n) (z n)) (hy : fEnds y res) : fEnds x res := fE_step k (fun n => by rw [h, if_pos hc]) hy
theorem fE_neg {x y z : Nat → Option fR} {res : fR} {c : Prop} {dc : Decidable c} (hc : ¬ c) (k : Nat) (h : ∀ n, x (n + k) = @ite _ c dc (y n) (z n)) (hz : fEnds z res) : fEnds x res := fE_step k (fun n => by rw [h, if_neg hc]) hz
theorem fE_call {x : Nat → Option fR} {y : Nat → fR → Option fR} {res r : fR} {q : Option fR} (hq : q = some r) (k : Nat) (h : ∀ n, x (n + k) = fbind q (y n)) (H : fEnds (fun n => y n r) res) : fEnds x res := fE_step k (fun n => by rw [h, hq]; rfl) H
theorem fE_id {x : Nat → Option fR} {res : fR} (H : fEnds x res) : fEnds (fun n => x n) res := H
