/-! THE CLASS AND THE MODEL SIDE BY SIDE -/
def St8 : Type := (Nat → Nat) × List (Nat → Nat) × Option (Nat → Nat) × (Nat → Nat) × Nat × List Nat × Int32 × Int32 × Int32
def St8.a (S : St8) : Nat → Nat := S.1
def St8.l (S : St8) : List (Nat → Nat) := S.2.1
def St8.sv (S : St8) : Option (Nat → Nat) := S.2.2.1
def St8.tx (S : St8) : Nat → Nat := S.2.2.2.1
def St8.n (S : St8) : Nat := S.2.2.2.2.1
def St8.ln (S : St8) : List Nat := S.2.2.2.2.2.1
def St8.rf (S : St8) : Int32 := S.2.2.2.2.2.2.1
def St8.er (S : St8) : Int32 := S.2.2.2.2.2.2.2.1
def St8.fl (S : St8) : Int32 := S.2.2.2.2.2.2.2.2
def mkS (a : Nat → Nat) (l : List (Nat → Nat)) (sv : Option (Nat → Nat)) (tx : Nat → Nat) (n : Nat) (ln : List Nat) (rf er fl : Int32) : St8 := (a, l, sv, tx, n, ln, rf, er, fl)
def flg (o : Option (Nat → Nat)) : Int32 := match o with
  | none => 0
  | some _ => 1
/-- the class's kinds, the model's kinds -/
def kC (c : Nat) : Prop := c < 8 ∨ (10 ≤ c ∧ c < 30) ∨ c = 51
def kM (c : Nat) : Prop := c = 8 ∨ (30 ≤ c ∧ c < 40)
def CI (S : St8) (μ : fM) : Prop := YR μ 0 S.a ∧ HR μ S.l ∧ μ.1 7 0 0 3 = flg S.sv ∧ (∀ b, S.sv = some b → YR μ 1 b) ∧ μ.1 7 0 0 7 = S.rf ∧ μ.1 7 0 0 8 = S.er ∧ μ.1 7 0 0 9 = S.fl ∧ CT μ S.tx S.n ∧ TL μ S.ln ∧ TZ μ
abbrev MIt (S : St8) (μ : fM) : Prop := μ.1 8 0 0 5 = nI S.l.length ∧ (∀ j b, S.l[j]? = some b → ∀ k, k < 213 → μ.1 33 0 0 (213 * j + k) = nI (b k)) ∧ μ.1 8 0 0 3 = flg S.sv ∧ (∀ b, S.sv = some b → ∀ k, k < 213 → μ.1 32 0 0 k = nI (b k)) ∧ μ.1 8 0 0 6 = S.er ∧ μ.1 8 0 0 7 = S.fl ∧ μ.1 8 0 0 8 = S.rf ∧ μ.1 8 0 0 11 = nI S.n ∧ (∀ i, i < S.n → μ.1 34 0 0 i = nI (S.tx i)) ∧ μ.1 8 0 0 16 = nI S.ln.length ∧ (∀ k, k < S.ln.length → μ.1 36 0 0 k = nI (S.ln.getD k 0)) ∧ LTt μ
def MI (S : St8) (μ : fM) : Prop := (∀ k, k < 213 → μ.1 30 0 0 k = nI (S.a k)) ∧ MIt S μ
def SO (u : Nat) (S : St8) : Prop := OKA u S.a ∧ (∀ b, b ∈ S.l → OKA u b) ∧ (∀ b, S.sv = some b → OKA u b) ∧ S.l.length ≤ 8 ∧ -1 ≤ S.er ∧ -1 ≤ S.fl ∧ S.ln.length ≤ 100 ∧ ∀ k, k < S.ln.length → S.ln.getD k 0 < 128
def SIM (u : Nat) (S : St8) (μ : fM) : Prop := CI S μ ∧ MI S μ ∧ SO u S
theorem YR_kC {μ μ' : fM} {y : Nat} {a : Nat → Nat} (Y : YR μ y a) (h1 : ∀ c y h k, kC c → μ'.1 c y h k = μ.1 c y h k) (h2 : ∀ y h k, μ'.2.1 6 y h k = μ.2.1 6 y h k) : YR μ' y a :=
  ⟨fun h hh => HV_out (Y.hv hh) (fun c k hc => h1 c y h k (by unfold kC; omega)), fun k hk => (h1 14 y 0 k (by unfold kC; omega)).trans (Y.tide hk), fun k hk => (h1 15 y 0 k (by unfold kC; omega)).trans (Y.slip hk), (h1 6 y 0 4 (by unfold kC; omega)).trans Y.begun, (h1 6 y 0 5 (by unfold kC; omega)).trans Y.now, (h2 y 0 6).trans Y.paid, (h1 2 y 0 5 (by unfold kC; omega)).trans Y.count, (h1 2 y 0 6 (by unfold kC; omega)).trans Y.next, fun k hk => (h1 16 y 0 k (by unfold kC; omega)).trans (Y.id hk), fun k hk => (h1 17 y 0 k (by unfold kC; omega)).trans (Y.fr hk), fun k hk => (h1 18 y 0 k (by unfold kC; omega)).trans (Y.hr hk), fun k hk => (h1 19 y 0 k (by unfold kC; omega)).trans (Y.co hk)⟩
theorem HR_kC {μ μ' : fM} {l : List (Nat → Nat)} (H : HR μ l) (h1 : ∀ c y h k, kC c → μ'.1 c y h k = μ.1 c y h k) (h2 : ∀ y h k, μ'.2.1 6 y h k = μ.2.1 6 y h k) : HR μ' l := by
  obtain ⟨o, ho, hl, e1, e2, hP⟩ := H
  exact ⟨o, ho, hl, (h1 0 0 0 1 (by unfold kC; omega)).trans e1, (h1 0 0 0 2 (by unfold kC; omega)).trans e2, fun i b hi => YR_kC (hP i b hi) h1 h2⟩
theorem TL_eq {μ μ' : fM} {l : List Nat} (T : TL μ l) (h : ∀ y k, μ'.1 51 y 0 k = μ.1 51 y 0 k) : TL μ' l := ⟨(h 1 0).trans T.1, fun k hk => (h 0 k).trans (T.2 k hk)⟩
theorem TZ_eq {μ μ' : fM} (T : TZ μ) (h : ∀ i j, μ'.1 28 0 i j = μ.1 28 0 i j) : TZ μ' := ⟨fun i hi => (h i 0).trans (T.1 i hi), fun j hj => (h 0 j).trans (T.2 j hj)⟩
theorem CI_out {μ μ' : fM} {S : St8} (C : CI S μ) (h1 : ∀ c y h k, kC c → μ'.1 c y h k = μ.1 c y h k) (h2 : ∀ y h k, μ'.2.1 6 y h k = μ.2.1 6 y h k) : CI S μ' := by
  obtain ⟨c1, c2, c3, c4, c5, c6, c7, c8, c9, c10⟩ := C
  exact ⟨YR_kC c1 h1 h2, HR_kC c2 h1 h2, (h1 7 0 0 3 (by unfold kC; omega)).trans c3, fun b hb => YR_kC (c4 b hb) h1 h2, (h1 7 0 0 7 (by unfold kC; omega)).trans c5, (h1 7 0 0 8 (by unfold kC; omega)).trans c6, (h1 7 0 0 9 (by unfold kC; omega)).trans c7, CT_out c8 (h1 3 0 0 1 (by unfold kC; omega)) (fun k => h1 21 0 0 k (by unfold kC; omega)), TL_eq c9 (fun y k => h1 51 y 0 k (by unfold kC; omega)), TZ_eq c10 (fun i j => h1 28 0 i j (by unfold kC; omega))⟩
theorem LT_eq {μ μ' : fM} (L : LTt μ) (h : ∀ c k, c = 37 ∨ c = 38 → μ'.1 c 0 0 k = μ.1 c 0 0 k) : LTt μ' := ⟨fun k hk => (h 38 k (by omega)).trans (L.1 k hk), fun k hk => (h 37 k (by omega)).trans (L.2 k hk)⟩
theorem MI_out {μ μ' : fM} {S : St8} (M : MI S μ) (h1 : ∀ c y h k, kM c → ¬ (c = 8 ∧ (k = 9 ∨ k = 13 ∨ 20 ≤ k)) → ¬ (c = 31) → ¬ (c = 35) → ¬ (c = 39) → μ'.1 c y h k = μ.1 c y h k) : MI S μ' := by
  obtain ⟨m1, m2, m3, m4, m5, m6, m7, m8, m9, m10, m11, m12, m13⟩ := M
  have h : ∀ c k, (c = 8 ∧ k ≠ 9 ∧ k ≠ 13 ∧ k < 20 ∨ c = 30 ∨ c = 32 ∨ c = 33 ∨ c = 34 ∨ c = 36 ∨ c = 37 ∨ c = 38) → μ'.1 c 0 0 k = μ.1 c 0 0 k := fun c k hc => h1 c 0 0 k (by unfold kM; omega) (by omega) (by omega) (by omega) (by omega)
  exact ⟨fun k hk => (h 30 k (by omega)).trans (m1 k hk), (h 8 5 (by omega)).trans m2, fun j b hj k hk => (h 33 _ (by omega)).trans (m3 j b hj k hk), (h 8 3 (by omega)).trans m4, fun b hb k hk => (h 32 k (by omega)).trans (m5 b hb k hk), (h 8 6 (by omega)).trans m6, (h 8 7 (by omega)).trans m7, (h 8 8 (by omega)).trans m8, (h 8 11 (by omega)).trans m9, fun i hi => (h 34 i (by omega)).trans (m10 i hi), (h 8 16 (by omega)).trans m11, fun k hk => (h 36 k (by omega)).trans (m12 k hk), LT_eq m13 (fun c k hc => h c k (by omega))⟩
theorem SIM_m {μ μ' : fM} {u : Nat} {S : St8} (I : SIM u S μ) (h1 : ∀ c y h k, ¬ (c = 8 ∧ (k = 9 ∨ k = 13 ∨ 20 ≤ k)) → ¬ c = 31 → ¬ c = 35 → ¬ c = 39 → (kC c ∨ kM c) → μ'.1 c y h k = μ.1 c y h k) (h2 : ∀ y h k, μ'.2.1 6 y h k = μ.2.1 6 y h k) : SIM u S μ' :=
  ⟨CI_out I.1 (fun c y h k hc => h1 c y h k (by unfold kC at hc; omega) (by unfold kC at hc; omega) (by unfold kC at hc; omega) (by unfold kC at hc; omega) (Or.inl hc)) h2, MI_out I.2.1 (fun c y h k hc a1 a2 a3 a4 => h1 c y h k a1 a2 a3 a4 (Or.inr hc)), I.2.2⟩
theorem SIM_fJ {μ : fM} {u : Nat} {S : St8} {v : Int64} (I : SIM u S μ) : SIM u S (fJ μ 40 0 0 0 v) := SIM_m I (fun _ _ _ _ _ _ _ _ _ => rfl) (fun y h k => by show (if 6 = 40 ∧ k = 0 ∧ y = 0 ∧ h = 0 then v else μ.2.1 6 y h k) = _; rw [if_neg (by omega)])
theorem SIM_fD {μ : fM} {u : Nat} {S : St8} {v : UInt64} (I : SIM u S μ) : SIM u S (fD μ 41 0 0 0 v) := SIM_m I (fun _ _ _ _ _ _ _ _ _ => rfl) (fun y h k => rfl)
theorem SIM_gT {μ : fM} {u : Nat} {S : St8} {v : Int32} (I : SIM u S μ) : SIM u S (gT μ v) := SIM_m I (fun c y h k q1 _ _ _ _ => fI_ne (fun p => q1 (by omega))) (fun y h k => rfl)
theorem SIM.self {μ : fM} {u : Nat} {S : St8} (I : SIM u S μ) : gA μ S.a = μ := gA_self I.2.1.1
theorem SIM.gT {μ : fM} {u : Nat} {S : St8} {v : Int32} (I : SIM u S μ) : SIM u S (gA (gT μ v) S.a) := by
  rw [(SIM_gT I).self]
  exact SIM_gT I
theorem SIM.yr {μ : fM} {u : Nat} {S : St8} (I : SIM u S μ) : YR μ 0 S.a := I.1.1
theorem SIM.hr {μ : fM} {u : Nat} {S : St8} (I : SIM u S μ) : HR μ S.l := I.1.2.1
theorem SIM.ok {μ : fM} {u : Nat} {S : St8} (I : SIM u S μ) : OKA u S.a := I.2.2.1
theorem SIM.tz {μ : fM} {u : Nat} {S : St8} (I : SIM u S μ) : TZ μ := I.1.2.2.2.2.2.2.2.2.2
theorem SIM.tl {μ : fM} {u : Nat} {S : St8} (I : SIM u S μ) : TL μ S.ln := I.1.2.2.2.2.2.2.2.2.1
theorem SIM.ct {μ : fM} {u : Nat} {S : St8} (I : SIM u S μ) : CT μ S.tx S.n := I.1.2.2.2.2.2.2.2.1
/-- a call by the wrapper and the model's call agree -/
def AG (sw sm : fS) (aw am : List fV) (μ : fM) (P : fM → Prop) : Prop := ∃ (k b : Int32) (μ1 μ2 : fM), sw aw μ = some (.inl (some (vI k)), μ1) ∧ sm am μ1 = some (.inl (some (vI b)), μ2) ∧ μ2.1 8 0 0 9 = k ∧ (k = 0 → μ2.2.1 40 0 0 0 = b.toInt64) ∧ P μ2
def AGb (sw sm : fS) (aw am : List fV) (μ : fM) (P : fM → Prop) : Prop := ∃ (k b : Int32) (μ1 μ2 : fM), sw aw μ = some (.inl (some (vI k)), μ1) ∧ sm am μ1 = some (.inl (some (vI b)), μ2) ∧ μ2.1 8 0 0 9 = k ∧ (k = 0 → μ2.2.1 40 0 0 0 = if b = 0 then 0 else 1) ∧ P μ2
def AGd (sw sm : fS) (aw am : List fV) (μ : fM) (P : fM → Prop) : Prop := ∃ (k : Int32) (b : UInt64) (μ1 μ2 : fM), sw aw μ = some (.inl (some (vI k)), μ1) ∧ sm am μ1 = some (.inl (some (vD b)), μ2) ∧ μ2.1 8 0 0 9 = k ∧ (k = 0 → μ2.2.2 41 0 0 0 = b) ∧ P μ2
def AG0 (sc sm : fS) (ac am : List fV) (μ : fM) (P : fM → Prop) : Prop := ∃ (v : Int32) (μ1 μ2 : fM), sc ac μ = some (.inl (some (vI v)), μ1) ∧ sm am μ1 = some (.inl (some (vI v)), μ2) ∧ P μ2
def AGl (sc sm : fS) (ac am : List fV) (μ : fM) (P : fM → Prop) : Prop := ∃ (v : Int64) (μ1 μ2 : fM), sc ac μ = some (.inl (some (vL v)), μ1) ∧ sm am μ1 = some (.inl (some (vL v)), μ2) ∧ P μ2
theorem AG_val {sw sm : fS} {aw am : List fV} {μ μ' : fM} {u : Nat} {S : St8} {v : Int32} (hw : sw aw μ = some (.inl (some (vI 0)), fJ μ' 40 0 0 0 v.toInt64)) (I : SIM u S μ') (hm : ∀ ν, sm am (gA ν S.a) = some (.inl (some (vI v)), gA (gT ν 0) S.a)) : AG sw sm aw am μ (SIM u S) := by
  have J := SIM_fJ (v := v.toInt64) I
  have m := hm (fJ μ' 40 0 0 0 v.toInt64)
  rw [J.self] at m
  exact ⟨0, v, _, _, hw, m, rfl, fun _ => fJ_at, J.gT⟩
theorem AG_thr {sw sm : fS} {aw am : List fV} {μ μ' : fM} {u : Nat} {S : St8} {k b : Int32} (hw : sw aw μ = some (.inl (some (vI k)), μ')) (I : SIM u S μ') (hk : k ≠ 0) (hm : ∀ ν, sm am (gA ν S.a) = some (.inl (some (vI b)), gA (gT ν k) S.a)) : AG sw sm aw am μ (SIM u S) := by
  have m := hm μ'
  rw [I.self] at m
  exact ⟨k, b, _, _, hw, m, rfl, fun e => absurd e hk, I.gT⟩
/-- a class's call that writes only what neither side reads -/
theorem SIM_sX {μ μ' : fM} {u : Nat} {S : St8} {P : Nat → Nat → Nat → Nat → Prop} (I : SIM u S μ) (h : sX' P μ μ') (hp : ∀ c y h k, P c y h k → c = 20 ∨ c = 24 ∨ c = 25 ∨ c = 26 ∨ (c = 28 ∧ 1 ≤ h ∧ 1 ≤ k) ∨ ((c = 1 ∨ c = 10 ∨ c = 11 ∨ c = 12) ∧ y = 11)) : SIM u S μ' := by
  obtain ⟨⟨c1, c2, c3, c4, c5, c6, c7, c8, c9, c10⟩, M, O⟩ := I
  have sy : sY (fun c y => c = 20 ∨ c = 24 ∨ c = 25 ∨ c = 26 ∨ c = 28 ∨ ((c = 1 ∨ c = 10 ∨ c = 11 ∨ c = 12) ∧ y = 11)) μ μ' := sY_ofX h (fun c y h k p => by have := hp c y h k p; omega)
  have out : ∀ c y h k, ¬ (c = 20 ∨ c = 24 ∨ c = 25 ∨ c = 26 ∨ c = 28 ∨ ((c = 1 ∨ c = 10 ∨ c = 11 ∨ c = 12) ∧ y = 11)) → μ'.1 c y h k = μ.1 c y h k := sy.1
  have yr : ∀ y b, y < 11 → YR μ y b → YR μ' y b := fun y b hy Y => YR_sY Y sy (fun c hc p => by have := hc.1; have := hc.2; omega)
  refine ⟨⟨yr 0 _ (by omega) c1, ?_, (out 7 0 0 3 (by omega)).trans c3, fun b hb => yr 1 b (by omega) (c4 b hb), (out 7 0 0 7 (by omega)).trans c5, (out 7 0 0 8 (by omega)).trans c6, (out 7 0 0 9 (by omega)).trans c7, CT_out c8 (out 3 0 0 1 (by omega)) (fun k => out 21 0 0 k (by omega)), TL_eq c9 (fun y k => out 51 y 0 k (by omega)), ?_⟩, MI_out M (fun c y h k hc _ _ _ _ => out c y h k (by unfold kM at hc; omega)), O⟩
  · obtain ⟨o, ho, hl, e1, e2, hP⟩ := c2
    exact ⟨o, ho, hl, (out 0 0 0 1 (by omega)).trans e1, (out 0 0 0 2 (by omega)).trans e2, fun i b hi => yr _ b (by omega) (hP i b hi)⟩
  · exact ⟨fun i hi => (h.1 28 0 i 0 (fun p => by have := hp _ _ _ _ p; omega)).trans (c10.1 i hi), fun j hj => (h.1 28 0 0 j (fun p => by have := hp _ _ _ _ p; omega)).trans (c10.2 j hj)⟩
