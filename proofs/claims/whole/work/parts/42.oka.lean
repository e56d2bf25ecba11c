/-! OKA behind a change -/
theorem OKA.mono {u u2 : Nat} {a : Nat → Nat} (O : OKA u a) (h : u ≤ u2) (h2 : u2 ≤ 6200) : OKA u2 a :=
  ⟨h2, O.hulls, by have := O.hour; omega, O.ords, by have := O.next; omega, by have := O.paid; omega, O.tide, O.slip, O.st, O.fr, O.cg, O.wt, O.wd, O.ck, fun k hk => by have := O.oi k hk; omega, O.fo, O.oh, O.oc⟩
theorem OKA.up_hulls {u : Nat} {a : Nat → Nat} {v : Nat} (O : OKA u a)  (hv : v ≤ 6) : OKA u (up a (0) v) := by
  refine ⟨O.u6, ?_, ?_, ?_, ?_, ?_, ?_, ?_, ?_, ?_, ?_, ?_, ?_, ?_, ?_, ?_, ?_, ?_⟩
  · have q := O.hulls
    show up a (0) v (0) ≤ 6
    unfold up
    (repeat' split) <;> omega
  · have q := O.hour
    show up a (0) v (1) ≤ 99 * u
    unfold up
    (repeat' split) <;> omega
  · have q := O.ords
    show up a (0) v (2) ≤ 6
    unfold up
    (repeat' split) <;> omega
  · have q := O.next
    show up a (0) v (3) ≤ u
    unfold up
    (repeat' split) <;> omega
  · have q := O.paid
    show up a (0) v (4) ≤ 999 * u
    unfold up
    (repeat' split) <;> omega
  · intro k hk
    have q : a (5 + k) ≤ 50 := O.tide k hk
    show up a (0) v (5 + k) ≤ 50
    unfold up
    (repeat' split) <;> omega
  · intro k hk
    have q : a (17 + k) ≤ 8 := O.slip k hk
    show up a (0) v (17 + k) ≤ 8
    unfold up
    (repeat' split) <;> omega
  · intro h hh
    have q : a (21 + 28 * h) ≤ 3 := O.st h hh
    show up a (0) v (21 + 28 * h) ≤ 3
    unfold up
    (repeat' split) <;> omega
  · intro h hh
    have q : a (21 + 28 * h + 1) ≤ 8 := O.fr h hh
    show up a (0) v (21 + 28 * h + 1) ≤ 8
    unfold up
    (repeat' split) <;> omega
  · intro h hh
    have q : a (21 + 28 * h + 2) ≤ 999 := O.cg h hh
    show up a (0) v (21 + 28 * h + 2) ≤ 999
    unfold up
    (repeat' split) <;> omega
  · intro h hh
    have q : a (21 + 28 * h + 3) ≤ 63 * a 1 := O.wt h hh
    show up a (0) v (21 + 28 * h + 3) ≤ 63 * up a (0) v 1
    unfold up
    (repeat' split) <;> omega
  · intro h k s hh hk hs
    have q : a (21 + 28 * h + 4 + 2 * k + s) ≤ 30 := O.wd h k s hh hk hs
    show up a (0) v (21 + 28 * h + 4 + 2 * k + s) ≤ 30
    unfold up
    (repeat' split) <;> omega
  · intro h k hh hk
    have q : a (21 + 28 * h + 20 + k) ≤ 9 := O.ck h k hh hk
    show up a (0) v (21 + 28 * h + 20 + k) ≤ 9
    unfold up
    (repeat' split) <;> omega
  · intro k hk
    have q : a (189 + 4 * k) ≤ u := O.oi k hk
    show up a (0) v (189 + 4 * k) ≤ u
    unfold up
    (repeat' split) <;> omega
  · intro k hk
    have q : a (189 + 4 * k + 1) ≤ 8 := O.fo k hk
    show up a (0) v (189 + 4 * k + 1) ≤ 8
    unfold up
    (repeat' split) <;> omega
  · intro k hk
    have q : a (189 + 4 * k + 2) ≤ 999 := O.oh k hk
    show up a (0) v (189 + 4 * k + 2) ≤ 999
    unfold up
    (repeat' split) <;> omega
  · intro k hk
    have q : a (189 + 4 * k + 3) ≤ 999 := O.oc k hk
    show up a (0) v (189 + 4 * k + 3) ≤ 999
    unfold up
    (repeat' split) <;> omega
theorem OKA.up_hour {u : Nat} {a : Nat → Nat} {v : Nat} (O : OKA u a)  (hv : a 1 ≤ v ∧ v ≤ 99 * u) : OKA u (up a (1) v) := by
  refine ⟨O.u6, ?_, ?_, ?_, ?_, ?_, ?_, ?_, ?_, ?_, ?_, ?_, ?_, ?_, ?_, ?_, ?_, ?_⟩
  · have q := O.hulls
    show up a (1) v (0) ≤ 6
    unfold up
    (repeat' split) <;> omega
  · have q := O.hour
    show up a (1) v (1) ≤ 99 * u
    unfold up
    (repeat' split) <;> omega
  · have q := O.ords
    show up a (1) v (2) ≤ 6
    unfold up
    (repeat' split) <;> omega
  · have q := O.next
    show up a (1) v (3) ≤ u
    unfold up
    (repeat' split) <;> omega
  · have q := O.paid
    show up a (1) v (4) ≤ 999 * u
    unfold up
    (repeat' split) <;> omega
  · intro k hk
    have q : a (5 + k) ≤ 50 := O.tide k hk
    show up a (1) v (5 + k) ≤ 50
    unfold up
    (repeat' split) <;> omega
  · intro k hk
    have q : a (17 + k) ≤ 8 := O.slip k hk
    show up a (1) v (17 + k) ≤ 8
    unfold up
    (repeat' split) <;> omega
  · intro h hh
    have q : a (21 + 28 * h) ≤ 3 := O.st h hh
    show up a (1) v (21 + 28 * h) ≤ 3
    unfold up
    (repeat' split) <;> omega
  · intro h hh
    have q : a (21 + 28 * h + 1) ≤ 8 := O.fr h hh
    show up a (1) v (21 + 28 * h + 1) ≤ 8
    unfold up
    (repeat' split) <;> omega
  · intro h hh
    have q : a (21 + 28 * h + 2) ≤ 999 := O.cg h hh
    show up a (1) v (21 + 28 * h + 2) ≤ 999
    unfold up
    (repeat' split) <;> omega
  · intro h hh
    have q : a (21 + 28 * h + 3) ≤ 63 * a 1 := O.wt h hh
    show up a (1) v (21 + 28 * h + 3) ≤ 63 * up a (1) v 1
    unfold up
    (repeat' split) <;> omega
  · intro h k s hh hk hs
    have q : a (21 + 28 * h + 4 + 2 * k + s) ≤ 30 := O.wd h k s hh hk hs
    show up a (1) v (21 + 28 * h + 4 + 2 * k + s) ≤ 30
    unfold up
    (repeat' split) <;> omega
  · intro h k hh hk
    have q : a (21 + 28 * h + 20 + k) ≤ 9 := O.ck h k hh hk
    show up a (1) v (21 + 28 * h + 20 + k) ≤ 9
    unfold up
    (repeat' split) <;> omega
  · intro k hk
    have q : a (189 + 4 * k) ≤ u := O.oi k hk
    show up a (1) v (189 + 4 * k) ≤ u
    unfold up
    (repeat' split) <;> omega
  · intro k hk
    have q : a (189 + 4 * k + 1) ≤ 8 := O.fo k hk
    show up a (1) v (189 + 4 * k + 1) ≤ 8
    unfold up
    (repeat' split) <;> omega
  · intro k hk
    have q : a (189 + 4 * k + 2) ≤ 999 := O.oh k hk
    show up a (1) v (189 + 4 * k + 2) ≤ 999
    unfold up
    (repeat' split) <;> omega
  · intro k hk
    have q : a (189 + 4 * k + 3) ≤ 999 := O.oc k hk
    show up a (1) v (189 + 4 * k + 3) ≤ 999
    unfold up
    (repeat' split) <;> omega
theorem OKA.up_ords {u : Nat} {a : Nat → Nat} {v : Nat} (O : OKA u a)  (hv : v ≤ 6) : OKA u (up a (2) v) := by
  refine ⟨O.u6, ?_, ?_, ?_, ?_, ?_, ?_, ?_, ?_, ?_, ?_, ?_, ?_, ?_, ?_, ?_, ?_, ?_⟩
  · have q := O.hulls
    show up a (2) v (0) ≤ 6
    unfold up
    (repeat' split) <;> omega
  · have q := O.hour
    show up a (2) v (1) ≤ 99 * u
    unfold up
    (repeat' split) <;> omega
  · have q := O.ords
    show up a (2) v (2) ≤ 6
    unfold up
    (repeat' split) <;> omega
  · have q := O.next
    show up a (2) v (3) ≤ u
    unfold up
    (repeat' split) <;> omega
  · have q := O.paid
    show up a (2) v (4) ≤ 999 * u
    unfold up
    (repeat' split) <;> omega
  · intro k hk
    have q : a (5 + k) ≤ 50 := O.tide k hk
    show up a (2) v (5 + k) ≤ 50
    unfold up
    (repeat' split) <;> omega
  · intro k hk
    have q : a (17 + k) ≤ 8 := O.slip k hk
    show up a (2) v (17 + k) ≤ 8
    unfold up
    (repeat' split) <;> omega
  · intro h hh
    have q : a (21 + 28 * h) ≤ 3 := O.st h hh
    show up a (2) v (21 + 28 * h) ≤ 3
    unfold up
    (repeat' split) <;> omega
  · intro h hh
    have q : a (21 + 28 * h + 1) ≤ 8 := O.fr h hh
    show up a (2) v (21 + 28 * h + 1) ≤ 8
    unfold up
    (repeat' split) <;> omega
  · intro h hh
    have q : a (21 + 28 * h + 2) ≤ 999 := O.cg h hh
    show up a (2) v (21 + 28 * h + 2) ≤ 999
    unfold up
    (repeat' split) <;> omega
  · intro h hh
    have q : a (21 + 28 * h + 3) ≤ 63 * a 1 := O.wt h hh
    show up a (2) v (21 + 28 * h + 3) ≤ 63 * up a (2) v 1
    unfold up
    (repeat' split) <;> omega
  · intro h k s hh hk hs
    have q : a (21 + 28 * h + 4 + 2 * k + s) ≤ 30 := O.wd h k s hh hk hs
    show up a (2) v (21 + 28 * h + 4 + 2 * k + s) ≤ 30
    unfold up
    (repeat' split) <;> omega
  · intro h k hh hk
    have q : a (21 + 28 * h + 20 + k) ≤ 9 := O.ck h k hh hk
    show up a (2) v (21 + 28 * h + 20 + k) ≤ 9
    unfold up
    (repeat' split) <;> omega
  · intro k hk
    have q : a (189 + 4 * k) ≤ u := O.oi k hk
    show up a (2) v (189 + 4 * k) ≤ u
    unfold up
    (repeat' split) <;> omega
  · intro k hk
    have q : a (189 + 4 * k + 1) ≤ 8 := O.fo k hk
    show up a (2) v (189 + 4 * k + 1) ≤ 8
    unfold up
    (repeat' split) <;> omega
  · intro k hk
    have q : a (189 + 4 * k + 2) ≤ 999 := O.oh k hk
    show up a (2) v (189 + 4 * k + 2) ≤ 999
    unfold up
    (repeat' split) <;> omega
  · intro k hk
    have q : a (189 + 4 * k + 3) ≤ 999 := O.oc k hk
    show up a (2) v (189 + 4 * k + 3) ≤ 999
    unfold up
    (repeat' split) <;> omega
theorem OKA.up_next {u : Nat} {a : Nat → Nat} {v : Nat} (O : OKA u a)  (hv : v ≤ u) : OKA u (up a (3) v) := by
  refine ⟨O.u6, ?_, ?_, ?_, ?_, ?_, ?_, ?_, ?_, ?_, ?_, ?_, ?_, ?_, ?_, ?_, ?_, ?_⟩
  · have q := O.hulls
    show up a (3) v (0) ≤ 6
    unfold up
    (repeat' split) <;> omega
  · have q := O.hour
    show up a (3) v (1) ≤ 99 * u
    unfold up
    (repeat' split) <;> omega
  · have q := O.ords
    show up a (3) v (2) ≤ 6
    unfold up
    (repeat' split) <;> omega
  · have q := O.next
    show up a (3) v (3) ≤ u
    unfold up
    (repeat' split) <;> omega
  · have q := O.paid
    show up a (3) v (4) ≤ 999 * u
    unfold up
    (repeat' split) <;> omega
  · intro k hk
    have q : a (5 + k) ≤ 50 := O.tide k hk
    show up a (3) v (5 + k) ≤ 50
    unfold up
    (repeat' split) <;> omega
  · intro k hk
    have q : a (17 + k) ≤ 8 := O.slip k hk
    show up a (3) v (17 + k) ≤ 8
    unfold up
    (repeat' split) <;> omega
  · intro h hh
    have q : a (21 + 28 * h) ≤ 3 := O.st h hh
    show up a (3) v (21 + 28 * h) ≤ 3
    unfold up
    (repeat' split) <;> omega
  · intro h hh
    have q : a (21 + 28 * h + 1) ≤ 8 := O.fr h hh
    show up a (3) v (21 + 28 * h + 1) ≤ 8
    unfold up
    (repeat' split) <;> omega
  · intro h hh
    have q : a (21 + 28 * h + 2) ≤ 999 := O.cg h hh
    show up a (3) v (21 + 28 * h + 2) ≤ 999
    unfold up
    (repeat' split) <;> omega
  · intro h hh
    have q : a (21 + 28 * h + 3) ≤ 63 * a 1 := O.wt h hh
    show up a (3) v (21 + 28 * h + 3) ≤ 63 * up a (3) v 1
    unfold up
    (repeat' split) <;> omega
  · intro h k s hh hk hs
    have q : a (21 + 28 * h + 4 + 2 * k + s) ≤ 30 := O.wd h k s hh hk hs
    show up a (3) v (21 + 28 * h + 4 + 2 * k + s) ≤ 30
    unfold up
    (repeat' split) <;> omega
  · intro h k hh hk
    have q : a (21 + 28 * h + 20 + k) ≤ 9 := O.ck h k hh hk
    show up a (3) v (21 + 28 * h + 20 + k) ≤ 9
    unfold up
    (repeat' split) <;> omega
  · intro k hk
    have q : a (189 + 4 * k) ≤ u := O.oi k hk
    show up a (3) v (189 + 4 * k) ≤ u
    unfold up
    (repeat' split) <;> omega
  · intro k hk
    have q : a (189 + 4 * k + 1) ≤ 8 := O.fo k hk
    show up a (3) v (189 + 4 * k + 1) ≤ 8
    unfold up
    (repeat' split) <;> omega
  · intro k hk
    have q : a (189 + 4 * k + 2) ≤ 999 := O.oh k hk
    show up a (3) v (189 + 4 * k + 2) ≤ 999
    unfold up
    (repeat' split) <;> omega
  · intro k hk
    have q : a (189 + 4 * k + 3) ≤ 999 := O.oc k hk
    show up a (3) v (189 + 4 * k + 3) ≤ 999
    unfold up
    (repeat' split) <;> omega
theorem OKA.up_paid {u : Nat} {a : Nat → Nat} {v : Nat} (O : OKA u a)  (hv : v ≤ 999 * u) : OKA u (up a (4) v) := by
  refine ⟨O.u6, ?_, ?_, ?_, ?_, ?_, ?_, ?_, ?_, ?_, ?_, ?_, ?_, ?_, ?_, ?_, ?_, ?_⟩
  · have q := O.hulls
    show up a (4) v (0) ≤ 6
    unfold up
    (repeat' split) <;> omega
  · have q := O.hour
    show up a (4) v (1) ≤ 99 * u
    unfold up
    (repeat' split) <;> omega
  · have q := O.ords
    show up a (4) v (2) ≤ 6
    unfold up
    (repeat' split) <;> omega
  · have q := O.next
    show up a (4) v (3) ≤ u
    unfold up
    (repeat' split) <;> omega
  · have q := O.paid
    show up a (4) v (4) ≤ 999 * u
    unfold up
    (repeat' split) <;> omega
  · intro k hk
    have q : a (5 + k) ≤ 50 := O.tide k hk
    show up a (4) v (5 + k) ≤ 50
    unfold up
    (repeat' split) <;> omega
  · intro k hk
    have q : a (17 + k) ≤ 8 := O.slip k hk
    show up a (4) v (17 + k) ≤ 8
    unfold up
    (repeat' split) <;> omega
  · intro h hh
    have q : a (21 + 28 * h) ≤ 3 := O.st h hh
    show up a (4) v (21 + 28 * h) ≤ 3
    unfold up
    (repeat' split) <;> omega
  · intro h hh
    have q : a (21 + 28 * h + 1) ≤ 8 := O.fr h hh
    show up a (4) v (21 + 28 * h + 1) ≤ 8
    unfold up
    (repeat' split) <;> omega
  · intro h hh
    have q : a (21 + 28 * h + 2) ≤ 999 := O.cg h hh
    show up a (4) v (21 + 28 * h + 2) ≤ 999
    unfold up
    (repeat' split) <;> omega
  · intro h hh
    have q : a (21 + 28 * h + 3) ≤ 63 * a 1 := O.wt h hh
    show up a (4) v (21 + 28 * h + 3) ≤ 63 * up a (4) v 1
    unfold up
    (repeat' split) <;> omega
  · intro h k s hh hk hs
    have q : a (21 + 28 * h + 4 + 2 * k + s) ≤ 30 := O.wd h k s hh hk hs
    show up a (4) v (21 + 28 * h + 4 + 2 * k + s) ≤ 30
    unfold up
    (repeat' split) <;> omega
  · intro h k hh hk
    have q : a (21 + 28 * h + 20 + k) ≤ 9 := O.ck h k hh hk
    show up a (4) v (21 + 28 * h + 20 + k) ≤ 9
    unfold up
    (repeat' split) <;> omega
  · intro k hk
    have q : a (189 + 4 * k) ≤ u := O.oi k hk
    show up a (4) v (189 + 4 * k) ≤ u
    unfold up
    (repeat' split) <;> omega
  · intro k hk
    have q : a (189 + 4 * k + 1) ≤ 8 := O.fo k hk
    show up a (4) v (189 + 4 * k + 1) ≤ 8
    unfold up
    (repeat' split) <;> omega
  · intro k hk
    have q : a (189 + 4 * k + 2) ≤ 999 := O.oh k hk
    show up a (4) v (189 + 4 * k + 2) ≤ 999
    unfold up
    (repeat' split) <;> omega
  · intro k hk
    have q : a (189 + 4 * k + 3) ≤ 999 := O.oc k hk
    show up a (4) v (189 + 4 * k + 3) ≤ 999
    unfold up
    (repeat' split) <;> omega
theorem OKA.up_tide {u : Nat} {a : Nat → Nat} {i v : Nat} (O : OKA u a) (i0 : i < 12) (hv : v ≤ 50) : OKA u (up a (5 + i) v) := by
  refine ⟨O.u6, ?_, ?_, ?_, ?_, ?_, ?_, ?_, ?_, ?_, ?_, ?_, ?_, ?_, ?_, ?_, ?_, ?_⟩
  · have q := O.hulls
    show up a (5 + i) v (0) ≤ 6
    unfold up
    (repeat' split) <;> omega
  · have q := O.hour
    show up a (5 + i) v (1) ≤ 99 * u
    unfold up
    (repeat' split) <;> omega
  · have q := O.ords
    show up a (5 + i) v (2) ≤ 6
    unfold up
    (repeat' split) <;> omega
  · have q := O.next
    show up a (5 + i) v (3) ≤ u
    unfold up
    (repeat' split) <;> omega
  · have q := O.paid
    show up a (5 + i) v (4) ≤ 999 * u
    unfold up
    (repeat' split) <;> omega
  · intro k hk
    have q : a (5 + k) ≤ 50 := O.tide k hk
    show up a (5 + i) v (5 + k) ≤ 50
    unfold up
    (repeat' split) <;> omega
  · intro k hk
    have q : a (17 + k) ≤ 8 := O.slip k hk
    show up a (5 + i) v (17 + k) ≤ 8
    unfold up
    (repeat' split) <;> omega
  · intro h hh
    have q : a (21 + 28 * h) ≤ 3 := O.st h hh
    show up a (5 + i) v (21 + 28 * h) ≤ 3
    unfold up
    (repeat' split) <;> omega
  · intro h hh
    have q : a (21 + 28 * h + 1) ≤ 8 := O.fr h hh
    show up a (5 + i) v (21 + 28 * h + 1) ≤ 8
    unfold up
    (repeat' split) <;> omega
  · intro h hh
    have q : a (21 + 28 * h + 2) ≤ 999 := O.cg h hh
    show up a (5 + i) v (21 + 28 * h + 2) ≤ 999
    unfold up
    (repeat' split) <;> omega
  · intro h hh
    have q : a (21 + 28 * h + 3) ≤ 63 * a 1 := O.wt h hh
    show up a (5 + i) v (21 + 28 * h + 3) ≤ 63 * up a (5 + i) v 1
    unfold up
    (repeat' split) <;> omega
  · intro h k s hh hk hs
    have q : a (21 + 28 * h + 4 + 2 * k + s) ≤ 30 := O.wd h k s hh hk hs
    show up a (5 + i) v (21 + 28 * h + 4 + 2 * k + s) ≤ 30
    unfold up
    (repeat' split) <;> omega
  · intro h k hh hk
    have q : a (21 + 28 * h + 20 + k) ≤ 9 := O.ck h k hh hk
    show up a (5 + i) v (21 + 28 * h + 20 + k) ≤ 9
    unfold up
    (repeat' split) <;> omega
  · intro k hk
    have q : a (189 + 4 * k) ≤ u := O.oi k hk
    show up a (5 + i) v (189 + 4 * k) ≤ u
    unfold up
    (repeat' split) <;> omega
  · intro k hk
    have q : a (189 + 4 * k + 1) ≤ 8 := O.fo k hk
    show up a (5 + i) v (189 + 4 * k + 1) ≤ 8
    unfold up
    (repeat' split) <;> omega
  · intro k hk
    have q : a (189 + 4 * k + 2) ≤ 999 := O.oh k hk
    show up a (5 + i) v (189 + 4 * k + 2) ≤ 999
    unfold up
    (repeat' split) <;> omega
  · intro k hk
    have q : a (189 + 4 * k + 3) ≤ 999 := O.oc k hk
    show up a (5 + i) v (189 + 4 * k + 3) ≤ 999
    unfold up
    (repeat' split) <;> omega
theorem OKA.up_slip {u : Nat} {a : Nat → Nat} {i v : Nat} (O : OKA u a) (i0 : i < 4) (hv : v ≤ 8) : OKA u (up a (17 + i) v) := by
  refine ⟨O.u6, ?_, ?_, ?_, ?_, ?_, ?_, ?_, ?_, ?_, ?_, ?_, ?_, ?_, ?_, ?_, ?_, ?_⟩
  · have q := O.hulls
    show up a (17 + i) v (0) ≤ 6
    unfold up
    (repeat' split) <;> omega
  · have q := O.hour
    show up a (17 + i) v (1) ≤ 99 * u
    unfold up
    (repeat' split) <;> omega
  · have q := O.ords
    show up a (17 + i) v (2) ≤ 6
    unfold up
    (repeat' split) <;> omega
  · have q := O.next
    show up a (17 + i) v (3) ≤ u
    unfold up
    (repeat' split) <;> omega
  · have q := O.paid
    show up a (17 + i) v (4) ≤ 999 * u
    unfold up
    (repeat' split) <;> omega
  · intro k hk
    have q : a (5 + k) ≤ 50 := O.tide k hk
    show up a (17 + i) v (5 + k) ≤ 50
    unfold up
    (repeat' split) <;> omega
  · intro k hk
    have q : a (17 + k) ≤ 8 := O.slip k hk
    show up a (17 + i) v (17 + k) ≤ 8
    unfold up
    (repeat' split) <;> omega
  · intro h hh
    have q : a (21 + 28 * h) ≤ 3 := O.st h hh
    show up a (17 + i) v (21 + 28 * h) ≤ 3
    unfold up
    (repeat' split) <;> omega
  · intro h hh
    have q : a (21 + 28 * h + 1) ≤ 8 := O.fr h hh
    show up a (17 + i) v (21 + 28 * h + 1) ≤ 8
    unfold up
    (repeat' split) <;> omega
  · intro h hh
    have q : a (21 + 28 * h + 2) ≤ 999 := O.cg h hh
    show up a (17 + i) v (21 + 28 * h + 2) ≤ 999
    unfold up
    (repeat' split) <;> omega
  · intro h hh
    have q : a (21 + 28 * h + 3) ≤ 63 * a 1 := O.wt h hh
    show up a (17 + i) v (21 + 28 * h + 3) ≤ 63 * up a (17 + i) v 1
    unfold up
    (repeat' split) <;> omega
  · intro h k s hh hk hs
    have q : a (21 + 28 * h + 4 + 2 * k + s) ≤ 30 := O.wd h k s hh hk hs
    show up a (17 + i) v (21 + 28 * h + 4 + 2 * k + s) ≤ 30
    unfold up
    (repeat' split) <;> omega
  · intro h k hh hk
    have q : a (21 + 28 * h + 20 + k) ≤ 9 := O.ck h k hh hk
    show up a (17 + i) v (21 + 28 * h + 20 + k) ≤ 9
    unfold up
    (repeat' split) <;> omega
  · intro k hk
    have q : a (189 + 4 * k) ≤ u := O.oi k hk
    show up a (17 + i) v (189 + 4 * k) ≤ u
    unfold up
    (repeat' split) <;> omega
  · intro k hk
    have q : a (189 + 4 * k + 1) ≤ 8 := O.fo k hk
    show up a (17 + i) v (189 + 4 * k + 1) ≤ 8
    unfold up
    (repeat' split) <;> omega
  · intro k hk
    have q : a (189 + 4 * k + 2) ≤ 999 := O.oh k hk
    show up a (17 + i) v (189 + 4 * k + 2) ≤ 999
    unfold up
    (repeat' split) <;> omega
  · intro k hk
    have q : a (189 + 4 * k + 3) ≤ 999 := O.oc k hk
    show up a (17 + i) v (189 + 4 * k + 3) ≤ 999
    unfold up
    (repeat' split) <;> omega
theorem OKA.up_st {u : Nat} {a : Nat → Nat} {g v : Nat} (O : OKA u a) (g0 : g < 6) (hv : v ≤ 3) : OKA u (up a (21 + 28 * g) v) := by
  refine ⟨O.u6, ?_, ?_, ?_, ?_, ?_, ?_, ?_, ?_, ?_, ?_, ?_, ?_, ?_, ?_, ?_, ?_, ?_⟩
  · have q := O.hulls
    show up a (21 + 28 * g) v (0) ≤ 6
    unfold up
    (repeat' split) <;> omega
  · have q := O.hour
    show up a (21 + 28 * g) v (1) ≤ 99 * u
    unfold up
    (repeat' split) <;> omega
  · have q := O.ords
    show up a (21 + 28 * g) v (2) ≤ 6
    unfold up
    (repeat' split) <;> omega
  · have q := O.next
    show up a (21 + 28 * g) v (3) ≤ u
    unfold up
    (repeat' split) <;> omega
  · have q := O.paid
    show up a (21 + 28 * g) v (4) ≤ 999 * u
    unfold up
    (repeat' split) <;> omega
  · intro k hk
    have q : a (5 + k) ≤ 50 := O.tide k hk
    show up a (21 + 28 * g) v (5 + k) ≤ 50
    unfold up
    (repeat' split) <;> omega
  · intro k hk
    have q : a (17 + k) ≤ 8 := O.slip k hk
    show up a (21 + 28 * g) v (17 + k) ≤ 8
    unfold up
    (repeat' split) <;> omega
  · intro h hh
    have q : a (21 + 28 * h) ≤ 3 := O.st h hh
    show up a (21 + 28 * g) v (21 + 28 * h) ≤ 3
    unfold up
    (repeat' split) <;> omega
  · intro h hh
    have q : a (21 + 28 * h + 1) ≤ 8 := O.fr h hh
    show up a (21 + 28 * g) v (21 + 28 * h + 1) ≤ 8
    unfold up
    (repeat' split) <;> omega
  · intro h hh
    have q : a (21 + 28 * h + 2) ≤ 999 := O.cg h hh
    show up a (21 + 28 * g) v (21 + 28 * h + 2) ≤ 999
    unfold up
    (repeat' split) <;> omega
  · intro h hh
    have q : a (21 + 28 * h + 3) ≤ 63 * a 1 := O.wt h hh
    show up a (21 + 28 * g) v (21 + 28 * h + 3) ≤ 63 * up a (21 + 28 * g) v 1
    unfold up
    (repeat' split) <;> omega
  · intro h k s hh hk hs
    have q : a (21 + 28 * h + 4 + 2 * k + s) ≤ 30 := O.wd h k s hh hk hs
    show up a (21 + 28 * g) v (21 + 28 * h + 4 + 2 * k + s) ≤ 30
    unfold up
    (repeat' split) <;> omega
  · intro h k hh hk
    have q : a (21 + 28 * h + 20 + k) ≤ 9 := O.ck h k hh hk
    show up a (21 + 28 * g) v (21 + 28 * h + 20 + k) ≤ 9
    unfold up
    (repeat' split) <;> omega
  · intro k hk
    have q : a (189 + 4 * k) ≤ u := O.oi k hk
    show up a (21 + 28 * g) v (189 + 4 * k) ≤ u
    unfold up
    (repeat' split) <;> omega
  · intro k hk
    have q : a (189 + 4 * k + 1) ≤ 8 := O.fo k hk
    show up a (21 + 28 * g) v (189 + 4 * k + 1) ≤ 8
    unfold up
    (repeat' split) <;> omega
  · intro k hk
    have q : a (189 + 4 * k + 2) ≤ 999 := O.oh k hk
    show up a (21 + 28 * g) v (189 + 4 * k + 2) ≤ 999
    unfold up
    (repeat' split) <;> omega
  · intro k hk
    have q : a (189 + 4 * k + 3) ≤ 999 := O.oc k hk
    show up a (21 + 28 * g) v (189 + 4 * k + 3) ≤ 999
    unfold up
    (repeat' split) <;> omega
theorem OKA.up_fr {u : Nat} {a : Nat → Nat} {g v : Nat} (O : OKA u a) (g0 : g < 6) (hv : v ≤ 8) : OKA u (up a (21 + 28 * g + 1) v) := by
  refine ⟨O.u6, ?_, ?_, ?_, ?_, ?_, ?_, ?_, ?_, ?_, ?_, ?_, ?_, ?_, ?_, ?_, ?_, ?_⟩
  · have q := O.hulls
    show up a (21 + 28 * g + 1) v (0) ≤ 6
    unfold up
    (repeat' split) <;> omega
  · have q := O.hour
    show up a (21 + 28 * g + 1) v (1) ≤ 99 * u
    unfold up
    (repeat' split) <;> omega
  · have q := O.ords
    show up a (21 + 28 * g + 1) v (2) ≤ 6
    unfold up
    (repeat' split) <;> omega
  · have q := O.next
    show up a (21 + 28 * g + 1) v (3) ≤ u
    unfold up
    (repeat' split) <;> omega
  · have q := O.paid
    show up a (21 + 28 * g + 1) v (4) ≤ 999 * u
    unfold up
    (repeat' split) <;> omega
  · intro k hk
    have q : a (5 + k) ≤ 50 := O.tide k hk
    show up a (21 + 28 * g + 1) v (5 + k) ≤ 50
    unfold up
    (repeat' split) <;> omega
  · intro k hk
    have q : a (17 + k) ≤ 8 := O.slip k hk
    show up a (21 + 28 * g + 1) v (17 + k) ≤ 8
    unfold up
    (repeat' split) <;> omega
  · intro h hh
    have q : a (21 + 28 * h) ≤ 3 := O.st h hh
    show up a (21 + 28 * g + 1) v (21 + 28 * h) ≤ 3
    unfold up
    (repeat' split) <;> omega
  · intro h hh
    have q : a (21 + 28 * h + 1) ≤ 8 := O.fr h hh
    show up a (21 + 28 * g + 1) v (21 + 28 * h + 1) ≤ 8
    unfold up
    (repeat' split) <;> omega
  · intro h hh
    have q : a (21 + 28 * h + 2) ≤ 999 := O.cg h hh
    show up a (21 + 28 * g + 1) v (21 + 28 * h + 2) ≤ 999
    unfold up
    (repeat' split) <;> omega
  · intro h hh
    have q : a (21 + 28 * h + 3) ≤ 63 * a 1 := O.wt h hh
    show up a (21 + 28 * g + 1) v (21 + 28 * h + 3) ≤ 63 * up a (21 + 28 * g + 1) v 1
    unfold up
    (repeat' split) <;> omega
  · intro h k s hh hk hs
    have q : a (21 + 28 * h + 4 + 2 * k + s) ≤ 30 := O.wd h k s hh hk hs
    show up a (21 + 28 * g + 1) v (21 + 28 * h + 4 + 2 * k + s) ≤ 30
    unfold up
    (repeat' split) <;> omega
  · intro h k hh hk
    have q : a (21 + 28 * h + 20 + k) ≤ 9 := O.ck h k hh hk
    show up a (21 + 28 * g + 1) v (21 + 28 * h + 20 + k) ≤ 9
    unfold up
    (repeat' split) <;> omega
  · intro k hk
    have q : a (189 + 4 * k) ≤ u := O.oi k hk
    show up a (21 + 28 * g + 1) v (189 + 4 * k) ≤ u
    unfold up
    (repeat' split) <;> omega
  · intro k hk
    have q : a (189 + 4 * k + 1) ≤ 8 := O.fo k hk
    show up a (21 + 28 * g + 1) v (189 + 4 * k + 1) ≤ 8
    unfold up
    (repeat' split) <;> omega
  · intro k hk
    have q : a (189 + 4 * k + 2) ≤ 999 := O.oh k hk
    show up a (21 + 28 * g + 1) v (189 + 4 * k + 2) ≤ 999
    unfold up
    (repeat' split) <;> omega
  · intro k hk
    have q : a (189 + 4 * k + 3) ≤ 999 := O.oc k hk
    show up a (21 + 28 * g + 1) v (189 + 4 * k + 3) ≤ 999
    unfold up
    (repeat' split) <;> omega
theorem OKA.up_cg {u : Nat} {a : Nat → Nat} {g v : Nat} (O : OKA u a) (g0 : g < 6) (hv : v ≤ 999) : OKA u (up a (21 + 28 * g + 2) v) := by
  refine ⟨O.u6, ?_, ?_, ?_, ?_, ?_, ?_, ?_, ?_, ?_, ?_, ?_, ?_, ?_, ?_, ?_, ?_, ?_⟩
  · have q := O.hulls
    show up a (21 + 28 * g + 2) v (0) ≤ 6
    unfold up
    (repeat' split) <;> omega
  · have q := O.hour
    show up a (21 + 28 * g + 2) v (1) ≤ 99 * u
    unfold up
    (repeat' split) <;> omega
  · have q := O.ords
    show up a (21 + 28 * g + 2) v (2) ≤ 6
    unfold up
    (repeat' split) <;> omega
  · have q := O.next
    show up a (21 + 28 * g + 2) v (3) ≤ u
    unfold up
    (repeat' split) <;> omega
  · have q := O.paid
    show up a (21 + 28 * g + 2) v (4) ≤ 999 * u
    unfold up
    (repeat' split) <;> omega
  · intro k hk
    have q : a (5 + k) ≤ 50 := O.tide k hk
    show up a (21 + 28 * g + 2) v (5 + k) ≤ 50
    unfold up
    (repeat' split) <;> omega
  · intro k hk
    have q : a (17 + k) ≤ 8 := O.slip k hk
    show up a (21 + 28 * g + 2) v (17 + k) ≤ 8
    unfold up
    (repeat' split) <;> omega
  · intro h hh
    have q : a (21 + 28 * h) ≤ 3 := O.st h hh
    show up a (21 + 28 * g + 2) v (21 + 28 * h) ≤ 3
    unfold up
    (repeat' split) <;> omega
  · intro h hh
    have q : a (21 + 28 * h + 1) ≤ 8 := O.fr h hh
    show up a (21 + 28 * g + 2) v (21 + 28 * h + 1) ≤ 8
    unfold up
    (repeat' split) <;> omega
  · intro h hh
    have q : a (21 + 28 * h + 2) ≤ 999 := O.cg h hh
    show up a (21 + 28 * g + 2) v (21 + 28 * h + 2) ≤ 999
    unfold up
    (repeat' split) <;> omega
  · intro h hh
    have q : a (21 + 28 * h + 3) ≤ 63 * a 1 := O.wt h hh
    show up a (21 + 28 * g + 2) v (21 + 28 * h + 3) ≤ 63 * up a (21 + 28 * g + 2) v 1
    unfold up
    (repeat' split) <;> omega
  · intro h k s hh hk hs
    have q : a (21 + 28 * h + 4 + 2 * k + s) ≤ 30 := O.wd h k s hh hk hs
    show up a (21 + 28 * g + 2) v (21 + 28 * h + 4 + 2 * k + s) ≤ 30
    unfold up
    (repeat' split) <;> omega
  · intro h k hh hk
    have q : a (21 + 28 * h + 20 + k) ≤ 9 := O.ck h k hh hk
    show up a (21 + 28 * g + 2) v (21 + 28 * h + 20 + k) ≤ 9
    unfold up
    (repeat' split) <;> omega
  · intro k hk
    have q : a (189 + 4 * k) ≤ u := O.oi k hk
    show up a (21 + 28 * g + 2) v (189 + 4 * k) ≤ u
    unfold up
    (repeat' split) <;> omega
  · intro k hk
    have q : a (189 + 4 * k + 1) ≤ 8 := O.fo k hk
    show up a (21 + 28 * g + 2) v (189 + 4 * k + 1) ≤ 8
    unfold up
    (repeat' split) <;> omega
  · intro k hk
    have q : a (189 + 4 * k + 2) ≤ 999 := O.oh k hk
    show up a (21 + 28 * g + 2) v (189 + 4 * k + 2) ≤ 999
    unfold up
    (repeat' split) <;> omega
  · intro k hk
    have q : a (189 + 4 * k + 3) ≤ 999 := O.oc k hk
    show up a (21 + 28 * g + 2) v (189 + 4 * k + 3) ≤ 999
    unfold up
    (repeat' split) <;> omega
theorem OKA.up_wt {u : Nat} {a : Nat → Nat} {g v : Nat} (O : OKA u a) (g0 : g < 6) (hv : v ≤ 63 * a 1) : OKA u (up a (21 + 28 * g + 3) v) := by
  refine ⟨O.u6, ?_, ?_, ?_, ?_, ?_, ?_, ?_, ?_, ?_, ?_, ?_, ?_, ?_, ?_, ?_, ?_, ?_⟩
  · have q := O.hulls
    show up a (21 + 28 * g + 3) v (0) ≤ 6
    unfold up
    (repeat' split) <;> omega
  · have q := O.hour
    show up a (21 + 28 * g + 3) v (1) ≤ 99 * u
    unfold up
    (repeat' split) <;> omega
  · have q := O.ords
    show up a (21 + 28 * g + 3) v (2) ≤ 6
    unfold up
    (repeat' split) <;> omega
  · have q := O.next
    show up a (21 + 28 * g + 3) v (3) ≤ u
    unfold up
    (repeat' split) <;> omega
  · have q := O.paid
    show up a (21 + 28 * g + 3) v (4) ≤ 999 * u
    unfold up
    (repeat' split) <;> omega
  · intro k hk
    have q : a (5 + k) ≤ 50 := O.tide k hk
    show up a (21 + 28 * g + 3) v (5 + k) ≤ 50
    unfold up
    (repeat' split) <;> omega
  · intro k hk
    have q : a (17 + k) ≤ 8 := O.slip k hk
    show up a (21 + 28 * g + 3) v (17 + k) ≤ 8
    unfold up
    (repeat' split) <;> omega
  · intro h hh
    have q : a (21 + 28 * h) ≤ 3 := O.st h hh
    show up a (21 + 28 * g + 3) v (21 + 28 * h) ≤ 3
    unfold up
    (repeat' split) <;> omega
  · intro h hh
    have q : a (21 + 28 * h + 1) ≤ 8 := O.fr h hh
    show up a (21 + 28 * g + 3) v (21 + 28 * h + 1) ≤ 8
    unfold up
    (repeat' split) <;> omega
  · intro h hh
    have q : a (21 + 28 * h + 2) ≤ 999 := O.cg h hh
    show up a (21 + 28 * g + 3) v (21 + 28 * h + 2) ≤ 999
    unfold up
    (repeat' split) <;> omega
  · intro h hh
    have q : a (21 + 28 * h + 3) ≤ 63 * a 1 := O.wt h hh
    show up a (21 + 28 * g + 3) v (21 + 28 * h + 3) ≤ 63 * up a (21 + 28 * g + 3) v 1
    unfold up
    (repeat' split) <;> omega
  · intro h k s hh hk hs
    have q : a (21 + 28 * h + 4 + 2 * k + s) ≤ 30 := O.wd h k s hh hk hs
    show up a (21 + 28 * g + 3) v (21 + 28 * h + 4 + 2 * k + s) ≤ 30
    unfold up
    (repeat' split) <;> omega
  · intro h k hh hk
    have q : a (21 + 28 * h + 20 + k) ≤ 9 := O.ck h k hh hk
    show up a (21 + 28 * g + 3) v (21 + 28 * h + 20 + k) ≤ 9
    unfold up
    (repeat' split) <;> omega
  · intro k hk
    have q : a (189 + 4 * k) ≤ u := O.oi k hk
    show up a (21 + 28 * g + 3) v (189 + 4 * k) ≤ u
    unfold up
    (repeat' split) <;> omega
  · intro k hk
    have q : a (189 + 4 * k + 1) ≤ 8 := O.fo k hk
    show up a (21 + 28 * g + 3) v (189 + 4 * k + 1) ≤ 8
    unfold up
    (repeat' split) <;> omega
  · intro k hk
    have q : a (189 + 4 * k + 2) ≤ 999 := O.oh k hk
    show up a (21 + 28 * g + 3) v (189 + 4 * k + 2) ≤ 999
    unfold up
    (repeat' split) <;> omega
  · intro k hk
    have q : a (189 + 4 * k + 3) ≤ 999 := O.oc k hk
    show up a (21 + 28 * g + 3) v (189 + 4 * k + 3) ≤ 999
    unfold up
    (repeat' split) <;> omega
theorem OKA.up_wd {u : Nat} {a : Nat → Nat} {g i r v : Nat} (O : OKA u a) (g0 : g < 6) (i0 : i < 8) (r0 : r < 2) (hv : v ≤ 30) : OKA u (up a (21 + 28 * g + 4 + 2 * i + r) v) := by
  refine ⟨O.u6, ?_, ?_, ?_, ?_, ?_, ?_, ?_, ?_, ?_, ?_, ?_, ?_, ?_, ?_, ?_, ?_, ?_⟩
  · have q := O.hulls
    show up a (21 + 28 * g + 4 + 2 * i + r) v (0) ≤ 6
    unfold up
    (repeat' split) <;> omega
  · have q := O.hour
    show up a (21 + 28 * g + 4 + 2 * i + r) v (1) ≤ 99 * u
    unfold up
    (repeat' split) <;> omega
  · have q := O.ords
    show up a (21 + 28 * g + 4 + 2 * i + r) v (2) ≤ 6
    unfold up
    (repeat' split) <;> omega
  · have q := O.next
    show up a (21 + 28 * g + 4 + 2 * i + r) v (3) ≤ u
    unfold up
    (repeat' split) <;> omega
  · have q := O.paid
    show up a (21 + 28 * g + 4 + 2 * i + r) v (4) ≤ 999 * u
    unfold up
    (repeat' split) <;> omega
  · intro k hk
    have q : a (5 + k) ≤ 50 := O.tide k hk
    show up a (21 + 28 * g + 4 + 2 * i + r) v (5 + k) ≤ 50
    unfold up
    (repeat' split) <;> omega
  · intro k hk
    have q : a (17 + k) ≤ 8 := O.slip k hk
    show up a (21 + 28 * g + 4 + 2 * i + r) v (17 + k) ≤ 8
    unfold up
    (repeat' split) <;> omega
  · intro h hh
    have q : a (21 + 28 * h) ≤ 3 := O.st h hh
    show up a (21 + 28 * g + 4 + 2 * i + r) v (21 + 28 * h) ≤ 3
    unfold up
    (repeat' split) <;> omega
  · intro h hh
    have q : a (21 + 28 * h + 1) ≤ 8 := O.fr h hh
    show up a (21 + 28 * g + 4 + 2 * i + r) v (21 + 28 * h + 1) ≤ 8
    unfold up
    (repeat' split) <;> omega
  · intro h hh
    have q : a (21 + 28 * h + 2) ≤ 999 := O.cg h hh
    show up a (21 + 28 * g + 4 + 2 * i + r) v (21 + 28 * h + 2) ≤ 999
    unfold up
    (repeat' split) <;> omega
  · intro h hh
    have q : a (21 + 28 * h + 3) ≤ 63 * a 1 := O.wt h hh
    show up a (21 + 28 * g + 4 + 2 * i + r) v (21 + 28 * h + 3) ≤ 63 * up a (21 + 28 * g + 4 + 2 * i + r) v 1
    unfold up
    (repeat' split) <;> omega
  · intro h k s hh hk hs
    have q : a (21 + 28 * h + 4 + 2 * k + s) ≤ 30 := O.wd h k s hh hk hs
    show up a (21 + 28 * g + 4 + 2 * i + r) v (21 + 28 * h + 4 + 2 * k + s) ≤ 30
    unfold up
    (repeat' split) <;> omega
  · intro h k hh hk
    have q : a (21 + 28 * h + 20 + k) ≤ 9 := O.ck h k hh hk
    show up a (21 + 28 * g + 4 + 2 * i + r) v (21 + 28 * h + 20 + k) ≤ 9
    unfold up
    (repeat' split) <;> omega
  · intro k hk
    have q : a (189 + 4 * k) ≤ u := O.oi k hk
    show up a (21 + 28 * g + 4 + 2 * i + r) v (189 + 4 * k) ≤ u
    unfold up
    (repeat' split) <;> omega
  · intro k hk
    have q : a (189 + 4 * k + 1) ≤ 8 := O.fo k hk
    show up a (21 + 28 * g + 4 + 2 * i + r) v (189 + 4 * k + 1) ≤ 8
    unfold up
    (repeat' split) <;> omega
  · intro k hk
    have q : a (189 + 4 * k + 2) ≤ 999 := O.oh k hk
    show up a (21 + 28 * g + 4 + 2 * i + r) v (189 + 4 * k + 2) ≤ 999
    unfold up
    (repeat' split) <;> omega
  · intro k hk
    have q : a (189 + 4 * k + 3) ≤ 999 := O.oc k hk
    show up a (21 + 28 * g + 4 + 2 * i + r) v (189 + 4 * k + 3) ≤ 999
    unfold up
    (repeat' split) <;> omega
theorem OKA.up_ck {u : Nat} {a : Nat → Nat} {g i v : Nat} (O : OKA u a) (g0 : g < 6) (i0 : i < 7) (hv : v ≤ 9) : OKA u (up a (21 + 28 * g + 20 + i) v) := by
  refine ⟨O.u6, ?_, ?_, ?_, ?_, ?_, ?_, ?_, ?_, ?_, ?_, ?_, ?_, ?_, ?_, ?_, ?_, ?_⟩
  · have q := O.hulls
    show up a (21 + 28 * g + 20 + i) v (0) ≤ 6
    unfold up
    (repeat' split) <;> omega
  · have q := O.hour
    show up a (21 + 28 * g + 20 + i) v (1) ≤ 99 * u
    unfold up
    (repeat' split) <;> omega
  · have q := O.ords
    show up a (21 + 28 * g + 20 + i) v (2) ≤ 6
    unfold up
    (repeat' split) <;> omega
  · have q := O.next
    show up a (21 + 28 * g + 20 + i) v (3) ≤ u
    unfold up
    (repeat' split) <;> omega
  · have q := O.paid
    show up a (21 + 28 * g + 20 + i) v (4) ≤ 999 * u
    unfold up
    (repeat' split) <;> omega
  · intro k hk
    have q : a (5 + k) ≤ 50 := O.tide k hk
    show up a (21 + 28 * g + 20 + i) v (5 + k) ≤ 50
    unfold up
    (repeat' split) <;> omega
  · intro k hk
    have q : a (17 + k) ≤ 8 := O.slip k hk
    show up a (21 + 28 * g + 20 + i) v (17 + k) ≤ 8
    unfold up
    (repeat' split) <;> omega
  · intro h hh
    have q : a (21 + 28 * h) ≤ 3 := O.st h hh
    show up a (21 + 28 * g + 20 + i) v (21 + 28 * h) ≤ 3
    unfold up
    (repeat' split) <;> omega
  · intro h hh
    have q : a (21 + 28 * h + 1) ≤ 8 := O.fr h hh
    show up a (21 + 28 * g + 20 + i) v (21 + 28 * h + 1) ≤ 8
    unfold up
    (repeat' split) <;> omega
  · intro h hh
    have q : a (21 + 28 * h + 2) ≤ 999 := O.cg h hh
    show up a (21 + 28 * g + 20 + i) v (21 + 28 * h + 2) ≤ 999
    unfold up
    (repeat' split) <;> omega
  · intro h hh
    have q : a (21 + 28 * h + 3) ≤ 63 * a 1 := O.wt h hh
    show up a (21 + 28 * g + 20 + i) v (21 + 28 * h + 3) ≤ 63 * up a (21 + 28 * g + 20 + i) v 1
    unfold up
    (repeat' split) <;> omega
  · intro h k s hh hk hs
    have q : a (21 + 28 * h + 4 + 2 * k + s) ≤ 30 := O.wd h k s hh hk hs
    show up a (21 + 28 * g + 20 + i) v (21 + 28 * h + 4 + 2 * k + s) ≤ 30
    unfold up
    (repeat' split) <;> omega
  · intro h k hh hk
    have q : a (21 + 28 * h + 20 + k) ≤ 9 := O.ck h k hh hk
    show up a (21 + 28 * g + 20 + i) v (21 + 28 * h + 20 + k) ≤ 9
    unfold up
    (repeat' split) <;> omega
  · intro k hk
    have q : a (189 + 4 * k) ≤ u := O.oi k hk
    show up a (21 + 28 * g + 20 + i) v (189 + 4 * k) ≤ u
    unfold up
    (repeat' split) <;> omega
  · intro k hk
    have q : a (189 + 4 * k + 1) ≤ 8 := O.fo k hk
    show up a (21 + 28 * g + 20 + i) v (189 + 4 * k + 1) ≤ 8
    unfold up
    (repeat' split) <;> omega
  · intro k hk
    have q : a (189 + 4 * k + 2) ≤ 999 := O.oh k hk
    show up a (21 + 28 * g + 20 + i) v (189 + 4 * k + 2) ≤ 999
    unfold up
    (repeat' split) <;> omega
  · intro k hk
    have q : a (189 + 4 * k + 3) ≤ 999 := O.oc k hk
    show up a (21 + 28 * g + 20 + i) v (189 + 4 * k + 3) ≤ 999
    unfold up
    (repeat' split) <;> omega
theorem OKA.up_oi {u : Nat} {a : Nat → Nat} {i v : Nat} (O : OKA u a) (i0 : i < 6) (hv : v ≤ u) : OKA u (up a (189 + 4 * i) v) := by
  refine ⟨O.u6, ?_, ?_, ?_, ?_, ?_, ?_, ?_, ?_, ?_, ?_, ?_, ?_, ?_, ?_, ?_, ?_, ?_⟩
  · have q := O.hulls
    show up a (189 + 4 * i) v (0) ≤ 6
    unfold up
    (repeat' split) <;> omega
  · have q := O.hour
    show up a (189 + 4 * i) v (1) ≤ 99 * u
    unfold up
    (repeat' split) <;> omega
  · have q := O.ords
    show up a (189 + 4 * i) v (2) ≤ 6
    unfold up
    (repeat' split) <;> omega
  · have q := O.next
    show up a (189 + 4 * i) v (3) ≤ u
    unfold up
    (repeat' split) <;> omega
  · have q := O.paid
    show up a (189 + 4 * i) v (4) ≤ 999 * u
    unfold up
    (repeat' split) <;> omega
  · intro k hk
    have q : a (5 + k) ≤ 50 := O.tide k hk
    show up a (189 + 4 * i) v (5 + k) ≤ 50
    unfold up
    (repeat' split) <;> omega
  · intro k hk
    have q : a (17 + k) ≤ 8 := O.slip k hk
    show up a (189 + 4 * i) v (17 + k) ≤ 8
    unfold up
    (repeat' split) <;> omega
  · intro h hh
    have q : a (21 + 28 * h) ≤ 3 := O.st h hh
    show up a (189 + 4 * i) v (21 + 28 * h) ≤ 3
    unfold up
    (repeat' split) <;> omega
  · intro h hh
    have q : a (21 + 28 * h + 1) ≤ 8 := O.fr h hh
    show up a (189 + 4 * i) v (21 + 28 * h + 1) ≤ 8
    unfold up
    (repeat' split) <;> omega
  · intro h hh
    have q : a (21 + 28 * h + 2) ≤ 999 := O.cg h hh
    show up a (189 + 4 * i) v (21 + 28 * h + 2) ≤ 999
    unfold up
    (repeat' split) <;> omega
  · intro h hh
    have q : a (21 + 28 * h + 3) ≤ 63 * a 1 := O.wt h hh
    show up a (189 + 4 * i) v (21 + 28 * h + 3) ≤ 63 * up a (189 + 4 * i) v 1
    unfold up
    (repeat' split) <;> omega
  · intro h k s hh hk hs
    have q : a (21 + 28 * h + 4 + 2 * k + s) ≤ 30 := O.wd h k s hh hk hs
    show up a (189 + 4 * i) v (21 + 28 * h + 4 + 2 * k + s) ≤ 30
    unfold up
    (repeat' split) <;> omega
  · intro h k hh hk
    have q : a (21 + 28 * h + 20 + k) ≤ 9 := O.ck h k hh hk
    show up a (189 + 4 * i) v (21 + 28 * h + 20 + k) ≤ 9
    unfold up
    (repeat' split) <;> omega
  · intro k hk
    have q : a (189 + 4 * k) ≤ u := O.oi k hk
    show up a (189 + 4 * i) v (189 + 4 * k) ≤ u
    unfold up
    (repeat' split) <;> omega
  · intro k hk
    have q : a (189 + 4 * k + 1) ≤ 8 := O.fo k hk
    show up a (189 + 4 * i) v (189 + 4 * k + 1) ≤ 8
    unfold up
    (repeat' split) <;> omega
  · intro k hk
    have q : a (189 + 4 * k + 2) ≤ 999 := O.oh k hk
    show up a (189 + 4 * i) v (189 + 4 * k + 2) ≤ 999
    unfold up
    (repeat' split) <;> omega
  · intro k hk
    have q : a (189 + 4 * k + 3) ≤ 999 := O.oc k hk
    show up a (189 + 4 * i) v (189 + 4 * k + 3) ≤ 999
    unfold up
    (repeat' split) <;> omega
theorem OKA.up_fo {u : Nat} {a : Nat → Nat} {i v : Nat} (O : OKA u a) (i0 : i < 6) (hv : v ≤ 8) : OKA u (up a (189 + 4 * i + 1) v) := by
  refine ⟨O.u6, ?_, ?_, ?_, ?_, ?_, ?_, ?_, ?_, ?_, ?_, ?_, ?_, ?_, ?_, ?_, ?_, ?_⟩
  · have q := O.hulls
    show up a (189 + 4 * i + 1) v (0) ≤ 6
    unfold up
    (repeat' split) <;> omega
  · have q := O.hour
    show up a (189 + 4 * i + 1) v (1) ≤ 99 * u
    unfold up
    (repeat' split) <;> omega
  · have q := O.ords
    show up a (189 + 4 * i + 1) v (2) ≤ 6
    unfold up
    (repeat' split) <;> omega
  · have q := O.next
    show up a (189 + 4 * i + 1) v (3) ≤ u
    unfold up
    (repeat' split) <;> omega
  · have q := O.paid
    show up a (189 + 4 * i + 1) v (4) ≤ 999 * u
    unfold up
    (repeat' split) <;> omega
  · intro k hk
    have q : a (5 + k) ≤ 50 := O.tide k hk
    show up a (189 + 4 * i + 1) v (5 + k) ≤ 50
    unfold up
    (repeat' split) <;> omega
  · intro k hk
    have q : a (17 + k) ≤ 8 := O.slip k hk
    show up a (189 + 4 * i + 1) v (17 + k) ≤ 8
    unfold up
    (repeat' split) <;> omega
  · intro h hh
    have q : a (21 + 28 * h) ≤ 3 := O.st h hh
    show up a (189 + 4 * i + 1) v (21 + 28 * h) ≤ 3
    unfold up
    (repeat' split) <;> omega
  · intro h hh
    have q : a (21 + 28 * h + 1) ≤ 8 := O.fr h hh
    show up a (189 + 4 * i + 1) v (21 + 28 * h + 1) ≤ 8
    unfold up
    (repeat' split) <;> omega
  · intro h hh
    have q : a (21 + 28 * h + 2) ≤ 999 := O.cg h hh
    show up a (189 + 4 * i + 1) v (21 + 28 * h + 2) ≤ 999
    unfold up
    (repeat' split) <;> omega
  · intro h hh
    have q : a (21 + 28 * h + 3) ≤ 63 * a 1 := O.wt h hh
    show up a (189 + 4 * i + 1) v (21 + 28 * h + 3) ≤ 63 * up a (189 + 4 * i + 1) v 1
    unfold up
    (repeat' split) <;> omega
  · intro h k s hh hk hs
    have q : a (21 + 28 * h + 4 + 2 * k + s) ≤ 30 := O.wd h k s hh hk hs
    show up a (189 + 4 * i + 1) v (21 + 28 * h + 4 + 2 * k + s) ≤ 30
    unfold up
    (repeat' split) <;> omega
  · intro h k hh hk
    have q : a (21 + 28 * h + 20 + k) ≤ 9 := O.ck h k hh hk
    show up a (189 + 4 * i + 1) v (21 + 28 * h + 20 + k) ≤ 9
    unfold up
    (repeat' split) <;> omega
  · intro k hk
    have q : a (189 + 4 * k) ≤ u := O.oi k hk
    show up a (189 + 4 * i + 1) v (189 + 4 * k) ≤ u
    unfold up
    (repeat' split) <;> omega
  · intro k hk
    have q : a (189 + 4 * k + 1) ≤ 8 := O.fo k hk
    show up a (189 + 4 * i + 1) v (189 + 4 * k + 1) ≤ 8
    unfold up
    (repeat' split) <;> omega
  · intro k hk
    have q : a (189 + 4 * k + 2) ≤ 999 := O.oh k hk
    show up a (189 + 4 * i + 1) v (189 + 4 * k + 2) ≤ 999
    unfold up
    (repeat' split) <;> omega
  · intro k hk
    have q : a (189 + 4 * k + 3) ≤ 999 := O.oc k hk
    show up a (189 + 4 * i + 1) v (189 + 4 * k + 3) ≤ 999
    unfold up
    (repeat' split) <;> omega
theorem OKA.up_oh {u : Nat} {a : Nat → Nat} {i v : Nat} (O : OKA u a) (i0 : i < 6) (hv : v ≤ 999) : OKA u (up a (189 + 4 * i + 2) v) := by
  refine ⟨O.u6, ?_, ?_, ?_, ?_, ?_, ?_, ?_, ?_, ?_, ?_, ?_, ?_, ?_, ?_, ?_, ?_, ?_⟩
  · have q := O.hulls
    show up a (189 + 4 * i + 2) v (0) ≤ 6
    unfold up
    (repeat' split) <;> omega
  · have q := O.hour
    show up a (189 + 4 * i + 2) v (1) ≤ 99 * u
    unfold up
    (repeat' split) <;> omega
  · have q := O.ords
    show up a (189 + 4 * i + 2) v (2) ≤ 6
    unfold up
    (repeat' split) <;> omega
  · have q := O.next
    show up a (189 + 4 * i + 2) v (3) ≤ u
    unfold up
    (repeat' split) <;> omega
  · have q := O.paid
    show up a (189 + 4 * i + 2) v (4) ≤ 999 * u
    unfold up
    (repeat' split) <;> omega
  · intro k hk
    have q : a (5 + k) ≤ 50 := O.tide k hk
    show up a (189 + 4 * i + 2) v (5 + k) ≤ 50
    unfold up
    (repeat' split) <;> omega
  · intro k hk
    have q : a (17 + k) ≤ 8 := O.slip k hk
    show up a (189 + 4 * i + 2) v (17 + k) ≤ 8
    unfold up
    (repeat' split) <;> omega
  · intro h hh
    have q : a (21 + 28 * h) ≤ 3 := O.st h hh
    show up a (189 + 4 * i + 2) v (21 + 28 * h) ≤ 3
    unfold up
    (repeat' split) <;> omega
  · intro h hh
    have q : a (21 + 28 * h + 1) ≤ 8 := O.fr h hh
    show up a (189 + 4 * i + 2) v (21 + 28 * h + 1) ≤ 8
    unfold up
    (repeat' split) <;> omega
  · intro h hh
    have q : a (21 + 28 * h + 2) ≤ 999 := O.cg h hh
    show up a (189 + 4 * i + 2) v (21 + 28 * h + 2) ≤ 999
    unfold up
    (repeat' split) <;> omega
  · intro h hh
    have q : a (21 + 28 * h + 3) ≤ 63 * a 1 := O.wt h hh
    show up a (189 + 4 * i + 2) v (21 + 28 * h + 3) ≤ 63 * up a (189 + 4 * i + 2) v 1
    unfold up
    (repeat' split) <;> omega
  · intro h k s hh hk hs
    have q : a (21 + 28 * h + 4 + 2 * k + s) ≤ 30 := O.wd h k s hh hk hs
    show up a (189 + 4 * i + 2) v (21 + 28 * h + 4 + 2 * k + s) ≤ 30
    unfold up
    (repeat' split) <;> omega
  · intro h k hh hk
    have q : a (21 + 28 * h + 20 + k) ≤ 9 := O.ck h k hh hk
    show up a (189 + 4 * i + 2) v (21 + 28 * h + 20 + k) ≤ 9
    unfold up
    (repeat' split) <;> omega
  · intro k hk
    have q : a (189 + 4 * k) ≤ u := O.oi k hk
    show up a (189 + 4 * i + 2) v (189 + 4 * k) ≤ u
    unfold up
    (repeat' split) <;> omega
  · intro k hk
    have q : a (189 + 4 * k + 1) ≤ 8 := O.fo k hk
    show up a (189 + 4 * i + 2) v (189 + 4 * k + 1) ≤ 8
    unfold up
    (repeat' split) <;> omega
  · intro k hk
    have q : a (189 + 4 * k + 2) ≤ 999 := O.oh k hk
    show up a (189 + 4 * i + 2) v (189 + 4 * k + 2) ≤ 999
    unfold up
    (repeat' split) <;> omega
  · intro k hk
    have q : a (189 + 4 * k + 3) ≤ 999 := O.oc k hk
    show up a (189 + 4 * i + 2) v (189 + 4 * k + 3) ≤ 999
    unfold up
    (repeat' split) <;> omega
theorem OKA.up_oc {u : Nat} {a : Nat → Nat} {i v : Nat} (O : OKA u a) (i0 : i < 6) (hv : v ≤ 999) : OKA u (up a (189 + 4 * i + 3) v) := by
  refine ⟨O.u6, ?_, ?_, ?_, ?_, ?_, ?_, ?_, ?_, ?_, ?_, ?_, ?_, ?_, ?_, ?_, ?_, ?_⟩
  · have q := O.hulls
    show up a (189 + 4 * i + 3) v (0) ≤ 6
    unfold up
    (repeat' split) <;> omega
  · have q := O.hour
    show up a (189 + 4 * i + 3) v (1) ≤ 99 * u
    unfold up
    (repeat' split) <;> omega
  · have q := O.ords
    show up a (189 + 4 * i + 3) v (2) ≤ 6
    unfold up
    (repeat' split) <;> omega
  · have q := O.next
    show up a (189 + 4 * i + 3) v (3) ≤ u
    unfold up
    (repeat' split) <;> omega
  · have q := O.paid
    show up a (189 + 4 * i + 3) v (4) ≤ 999 * u
    unfold up
    (repeat' split) <;> omega
  · intro k hk
    have q : a (5 + k) ≤ 50 := O.tide k hk
    show up a (189 + 4 * i + 3) v (5 + k) ≤ 50
    unfold up
    (repeat' split) <;> omega
  · intro k hk
    have q : a (17 + k) ≤ 8 := O.slip k hk
    show up a (189 + 4 * i + 3) v (17 + k) ≤ 8
    unfold up
    (repeat' split) <;> omega
  · intro h hh
    have q : a (21 + 28 * h) ≤ 3 := O.st h hh
    show up a (189 + 4 * i + 3) v (21 + 28 * h) ≤ 3
    unfold up
    (repeat' split) <;> omega
  · intro h hh
    have q : a (21 + 28 * h + 1) ≤ 8 := O.fr h hh
    show up a (189 + 4 * i + 3) v (21 + 28 * h + 1) ≤ 8
    unfold up
    (repeat' split) <;> omega
  · intro h hh
    have q : a (21 + 28 * h + 2) ≤ 999 := O.cg h hh
    show up a (189 + 4 * i + 3) v (21 + 28 * h + 2) ≤ 999
    unfold up
    (repeat' split) <;> omega
  · intro h hh
    have q : a (21 + 28 * h + 3) ≤ 63 * a 1 := O.wt h hh
    show up a (189 + 4 * i + 3) v (21 + 28 * h + 3) ≤ 63 * up a (189 + 4 * i + 3) v 1
    unfold up
    (repeat' split) <;> omega
  · intro h k s hh hk hs
    have q : a (21 + 28 * h + 4 + 2 * k + s) ≤ 30 := O.wd h k s hh hk hs
    show up a (189 + 4 * i + 3) v (21 + 28 * h + 4 + 2 * k + s) ≤ 30
    unfold up
    (repeat' split) <;> omega
  · intro h k hh hk
    have q : a (21 + 28 * h + 20 + k) ≤ 9 := O.ck h k hh hk
    show up a (189 + 4 * i + 3) v (21 + 28 * h + 20 + k) ≤ 9
    unfold up
    (repeat' split) <;> omega
  · intro k hk
    have q : a (189 + 4 * k) ≤ u := O.oi k hk
    show up a (189 + 4 * i + 3) v (189 + 4 * k) ≤ u
    unfold up
    (repeat' split) <;> omega
  · intro k hk
    have q : a (189 + 4 * k + 1) ≤ 8 := O.fo k hk
    show up a (189 + 4 * i + 3) v (189 + 4 * k + 1) ≤ 8
    unfold up
    (repeat' split) <;> omega
  · intro k hk
    have q : a (189 + 4 * k + 2) ≤ 999 := O.oh k hk
    show up a (189 + 4 * i + 3) v (189 + 4 * k + 2) ≤ 999
    unfold up
    (repeat' split) <;> omega
  · intro k hk
    have q : a (189 + 4 * k + 3) ≤ 999 := O.oc k hk
    show up a (189 + 4 * i + 3) v (189 + 4 * k + 3) ≤ 999
    unfold up
    (repeat' split) <;> omega
