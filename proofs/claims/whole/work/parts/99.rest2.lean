theorem numT_128 {v : Nat} (hv : v ≤ 99) : ∀ c, c ∈ numT v → c < 128 := fun c h => by
  unfold numT at h
  split at h
  · rcases List.mem_cons.mp h with e | h
    · omega
    · rcases List.mem_cons.mp h with e | h
      · omega
      · cases h
  · rcases List.mem_cons.mp h with e | h
    · omega
    · cases h
theorem frT_128 {u : Nat} {a : Nat → Nat} {h k : Nat} (O : OKA u a) (hh : h < 6) (hk : k < hF a h) : ∀ c, c ∈ frT a h k → c < 128 := fun c m => by
  have h8 := O.fr h hh
  have w0 := O.wd h k 0 hh (by omega) (by decide)
  have w1 := O.wd h k 1 hh (by omega) (by decide)
  unfold frT at m
  rcases List.mem_append.mp m with m | m
  · rcases List.mem_append.mp m with m | m
    · rcases List.mem_append.mp m with m | m
      · rcases List.mem_append.mp m with m | m
        · rw [List.mem_singleton.mp m]; decide
        · exact numT_128 (by omega) c m
      · rw [List.mem_singleton.mp m]; decide
    · exact numT_128 (by omega) c m
  · split at m
    · rename_i q
      have k9 := O.ck h k hh (by omega)
      rcases List.mem_append.mp m with m | m
      · rw [List.mem_singleton.mp m]; decide
      · exact numT_128 (by omega) c m
    · cases m
theorem frsT_ok {u : Nat} {a : Nat → Nat} {h : Nat} (O : OKA u a) (hh : h < 6) : ∀ j k, k + j ≤ hF a h → (frsT a h j k).length ≤ 9 * j ∧ ∀ c, c ∈ frsT a h j k → c < 128
  | 0, k, _ => ⟨Nat.zero_le _, fun c m => by cases m⟩
  | j + 1, k, e => by
    have ih := frsT_ok O hh j (k + 1) (by omega)
    have fl := frT_le (a := a) (h := h) (k := k)
    refine ⟨?_, fun c m => ?_⟩
    · rw [frsT, List.length_append]; omega
    · rw [frsT] at m
      rcases List.mem_append.mp m with m | m
      · exact frT_128 O hh (by omega) c m
      · exact ih.2 c m
theorem hullT_ok {u : Nat} {a : Nat → Nat} {h : Nat} (O : OKA u a) (hh : h < 6) : (hullT a h).length ≤ 100 ∧ ∀ k, k < (hullT a h).length → (hullT a h).getD k 0 < 128 := by
  have h8 := O.fr h hh
  have f := frsT_ok O hh (hF a h) 0 (by omega)
  have n := numT_le (v := h)
  refine ⟨?_, fun k hk => ?_⟩
  · unfold hullT
    simp only [List.length_append, List.length_cons, List.length_nil]
    omega
  · rw [List.getD_eq_getElem?_getD, List.getElem?_eq_getElem hk]
    show (hullT a h)[k] < 128
    have m := List.getElem_mem hk
    revert m
    generalize (hullT a h)[k] = c
    intro m
    unfold hullT at m
    rcases List.mem_append.mp m with m | m
    · rcases List.mem_append.mp m with m | m
      · exact numT_128 (by omega) c m
      · rw [List.mem_singleton.mp m]
        unfold letT
        split
        · decide
        · split
          · decide
          · split <;> decide
    · exact f.2 c m
theorem s_writeHull {u : Nat} {S : St8} {μ : fM} (I : SIM u S μ) (x : Int32) : ∃ S', AG sL_writeHull sX8_writeHull [vR 7 0 0, vI x, vR 40 0 0] [vR 8 0 0, vI x] μ (SIM u S') := by
  by_cases q : okH S.a x
  · have h6 := I.ok.hulls
    obtain ⟨h, hh, rfl⟩ := nI_ix (n := S.a 0) (by omega) q.1 q.2
    have ht := hullT_ok I.ok (h := h) (by omega)
    obtain ⟨μ', c, T, hs⟩ := k_writeHull I.yr I.ok hh
    have w := w_writeHull _ c
    have M0 : MI S μ' := MI_out I.2.1 (fun c y h' k hc _ _ _ _ => hs.1 c y h' k (fun p => by
      unfold kM at hc
      have p : c = 51 := p
      omega))
    have C0 : CI (S.line (hullT S.a h)) μ' := by
      obtain ⟨c1, c2, c3, c4, c5, c6, c7, c8, c9, c10⟩ := I.1
      have sy : sY (fun c _ => c = 51) μ μ' := sY_ofX hs (fun c y h k p => p)
      have ne : ∀ c y h' k, (c = 3 ∨ c = 7 ∨ c = 21 ∨ c = 28) → μ'.1 c y h' k = μ.1 c y h' k := fun c y h' k hc => hs.1 c y h' k (fun p => by
        have p : c = 51 := p
        omega)
      exact ⟨YR_sY c1 sy (fun c hc p => by have := hc.1; omega), HR_sY c2 sy (by omega) (fun c y _ hc p => by have := hc.1; omega), (ne 7 _ _ _ (by omega)).trans c3, fun b hb => YR_sY (c4 b hb) sy (fun c hc p => by have := hc.1; omega), (ne 7 _ _ _ (by omega)).trans c5, (ne 7 _ _ _ (by omega)).trans c6, (ne 7 _ _ _ (by omega)).trans c7, CT_out c8 (ne 3 _ _ _ (by omega)) (fun k => ne 21 _ _ _ (by omega)), T, TZ_eq c10 (fun i j => ne 28 _ _ _ (by omega))⟩
    have M1 := MI_fJ (v := (nI (hullT S.a h).length).toInt64) M0
    have C1 := CI_fJ (v := (nI (hullT S.a h).length).toInt64) C0
    have at40 : (fJ μ' 40 0 0 0 (nI (hullT S.a h).length).toInt64).2.1 40 0 0 0 = (nI (hullT S.a h).length).toInt64 := fJ_at
    revert w M1 C1 at40
    generalize fJ μ' 40 0 0 0 (nI (hullT S.a h).length).toInt64 = ν
    intro w M1 C1 at40
    have m := g_writeHull ν (a := S.a) I.ok hh
    rw [gA_self M1.1] at m
    have ne : ∀ c y h' k, ¬ (c = 8 ∧ (k = 9 ∨ k = 16)) → ¬ c = 36 → (gL (gT ν 0) (hullT S.a h)).1 c y h' k = ν.1 c y h' k := fun c y h' k q1 q2 => (hO_ne q2).trans ((fI_ne (fun p => q1 (by omega))).trans (fI_ne (fun p => q1 (by omega))))
    have M2 : MI (S.line (hullT S.a h)) (gL (gT ν 0) (hullT S.a h)) := by
      obtain ⟨m1, m2, m3, m4, m5, m6, m7, m8, m9, m10, m11, m12, m13⟩ := M1
      exact ⟨fun k hk => (ne 30 _ _ _ (by omega) (by omega)).trans (m1 k hk), (ne 8 _ _ _ (by omega) (by omega)).trans m2, fun j b' hj k hk => (ne 33 _ _ _ (by omega) (by omega)).trans (m3 j b' hj k hk), (ne 8 _ _ _ (by omega) (by omega)).trans m4, fun b hb k hk => (ne 32 _ _ _ (by omega) (by omega)).trans (m5 b hb k hk), (ne 8 _ _ _ (by omega) (by omega)).trans m6, (ne 8 _ _ _ (by omega) (by omega)).trans m7, (ne 8 _ _ _ (by omega) (by omega)).trans m8, (ne 8 _ _ _ (by omega) (by omega)).trans m9, fun i hi => (ne 34 _ _ _ (by omega) (by omega)).trans (m10 i hi), (hO_ne (by decide)).trans fI_at, fun k hk => by
        have hk : k < (hullT S.a h).length := hk
        exact hO_in (Nat.zero_le _) (by omega), LT_eq m13 (fun c k hc => ne c 0 0 k (by omega) (by omega))⟩
    rw [gA_self (a := S.a) M2.1] at m
    exact ⟨S.line (hullT S.a h), 0, _, _, _, w, m, (hO_ne (by decide)).trans ((fI_ne (by omega)).trans fI_at), fun _ => at40, CI_out C1 (fun c y h k hc => ne c y h k (by unfold kC at hc; omega) (by unfold kC at hc; omega)) (fun _ _ _ => rfl), M2, I.2.2.1, I.2.2.2.1, I.2.2.2.2.1, I.2.2.2.2.2.1, I.2.2.2.2.2.2.1, I.2.2.2.2.2.2.2.1, ht⟩
  · exact ⟨S, AG_thr (w_writeHull0 x (k_writeHull0 I.yr q)) I (by decide) (fun ν => g_writeHull0 ν I.ok q)⟩
theorem s_lineAt {u : Nat} {S : St8} {μ : fM} (I : SIM u S μ) (x : Int32) : AG sL_lineAt sX8_lineAt [vR 7 0 0, vI x, vR 40 0 0] [vR 8 0 0, vI x] μ (SIM u S) := by
  have l1 := I.2.2.2.2.2.2.2.2.1
  have l2 := I.2.2.2.2.2.2.2.2.2
  by_cases q : 0 ≤ x ∧ x < nI S.ln.length
  · obtain ⟨k, hk, rfl⟩ := nI_ix (n := S.ln.length) (by omega) q.1 q.2
    have c := k_lineAt I.tl hk l1 (l2 k hk)
    refine AG_valS (w_lineAt _ c) I (fun ν K => ?_)
    have m := g_lineAt ν (a := S.a) hk l1 K.2.1.2.2.2.2.2.2.2.2.2.2.1 (K.2.1.2.2.2.2.2.2.2.2.2.2.2.1 k hk) (l2 k hk)
    rw [K.self] at m
    exact ⟨_, m, (gA_ne (by decide)).trans fI_at, rfl, K.gT⟩
  · have c := k_lineAt0 I.tl q
    refine AG_thrS (b := 65535) (w_lineAt0 x c) I (by decide) (fun ν K => ?_)
    have m := g_lineAt0 ν (a := S.a) l1 q K.2.1.2.2.2.2.2.2.2.2.2.2.1
    rw [K.self] at m
    exact ⟨_, m, (gA_ne (by decide)).trans fI_at, K.gT⟩
theorem pP_err {tx : Nat → Nat} {n : Nat} : ∀ {f p e : Nat}, p ≤ n → pP tx n f p = .inl e → e ≤ n
  | 0, p, e, hp, h => by cases h; exact hp
  | f + 1, p, e, hp, h => by
    have K := cR_ok (tx := tx) hp (j := 11) (k := 0) (e := p) (by omega) (Nat.le_refl _) hp
    rw [pP] at h
    cases hq : (cR tx n p 11 0 p).2 with
    | none =>
      rw [hq] at h
      cases h
      exact K.2.1
    | some q =>
      rw [hq] at h
      have h : (if n ≤ (cR tx n p 11 0 p).1 then .inr [q] else if tx (cR tx n p 11 0 p).1 = 59 then (match pP tx n f ((cR tx n p 11 0 p).1 + 1) with
        | .inl e => .inl e
        | .inr l => .inr (q :: l)) else .inl (cR tx n p 11 0 p).1) = (Sum.inl e : Nat ⊕ List (Nat × List Nat)) := h
      by_cases a : n ≤ (cR tx n p 11 0 p).1
      · rw [if_pos a] at h; cases h
      · rw [if_neg a] at h
        by_cases b : tx (cR tx n p 11 0 p).1 = 59
        · rw [if_pos b] at h
          cases hr : pP tx n f ((cR tx n p 11 0 p).1 + 1) with
          | inl e' =>
            rw [hr] at h
            cases h
            exact pP_err (by omega) hr
          | inr l' => rw [hr] at h; cases h
        · rw [if_neg b] at h
          cases h
          exact K.2.1
theorem m1_le {k : Nat} (h : k < 2 ^ 31) : -1 ≤ nI k := Int32.le_trans (by decide : (-1 : Int32) ≤ 0) (nI_le (a := 0) (Nat.zero_le _) h)
theorem CI_ex {S : St8} {μ μ' : fM} {a : Nat → Nat} {l : List (Nat → Nat)} {rf er fl : Int32} (C : CI S μ) (Y : YR μ' 0 a) (H : HR μ' l) (h7 : μ'.1 7 0 0 7 = rf) (h8 : μ'.1 7 0 0 8 = er) (h9 : μ'.1 7 0 0 9 = fl) (h3 : μ'.1 3 0 0 1 = nI 0) (hs : sZ kxP μ μ') : CI (mkS a l S.sv S.tx 0 S.ln rf er fl) μ' := by
  obtain ⟨c1, c2, c3, c4, c5, c6, c7, c8, c9, c10⟩ := C
  have ne : ∀ c y h' k, ((c = 7 ∧ k = 3) ∨ c = 28 ∨ c = 51) → μ'.1 c y h' k = μ.1 c y h' k := fun c y h' k hc => hs.1 c y h' k (fun p => by
    rcases p with p | p | p | p | p | p
    · omega
    · omega
    · omega
    · omega
    · have := p.1.1; omega
    · omega)
  refine ⟨Y, H, (ne 7 _ _ _ (by omega)).trans c3, fun b hb => ?_, h7, h8, h9, ⟨Nat.zero_le _, h3, fun i hi => absurd hi (Nat.not_lt_zero _)⟩, TL_eq c9 (fun y k => ne 51 _ _ _ (by omega)), TZ_eq c10 (fun i j => ne 28 _ _ _ (by omega))⟩
  have out : ∀ c h' k, (c = 1 ∨ c = 2 ∨ c = 6 ∨ c = 10 ∨ c = 11 ∨ c = 12 ∨ c = 14 ∨ c = 15 ∨ c = 16 ∨ c = 17 ∨ c = 18 ∨ c = 19) → ¬ kxP c 1 h' k := fun c h' k hc p => by
    rcases p with p | p | p | p | p | p
    · omega
    · omega
    · omega
    · omega
    · exact p.2 rfl
    · omega
  have Yb := c4 b hb
  have o := fun c h' k hc => hs.1 c 1 h' k (out c h' k hc)
  exact ⟨fun h hh => HV_out (Yb.hv hh) (fun c k hc => o c h k (by omega)), fun k hk => (o 14 0 k (by omega)).trans (Yb.tide hk), fun k hk => (o 15 0 k (by omega)).trans (Yb.slip hk), (o 6 0 4 (by omega)).trans Yb.begun, (o 6 0 5 (by omega)).trans Yb.now, (hs.2.1 6 1 0 6 (out 6 0 6 (by omega))).trans Yb.paid, (o 2 0 5 (by omega)).trans Yb.count, (o 2 0 6 (by omega)).trans Yb.next, fun k hk => (o 16 0 k (by omega)).trans (Yb.id hk), fun k hk => (o 17 0 k (by omega)).trans (Yb.fr hk), fun k hk => (o 18 0 k (by omega)).trans (Yb.hr hk), fun k hk => (o 19 0 k (by omega)).trans (Yb.co hk)⟩
theorem MI_kx {S : St8} {μ μ' : fM} (M : MI S μ) (hs : sZ kxP μ μ') : MI S μ' := MI_out M (fun c y h k hc _ _ _ _ => hs.1 c y h k (fun p => by
  unfold kM at hc
  rcases p with p | p | p | p | p | p
  · omega
  · omega
  · omega
  · omega
  · have := p.1.1; omega
  · omega))
theorem s_execute {u : Nat} {S : St8} {μ : fM} (I : SIM u S μ) (hu : u + 12 ≤ 6200) : ∃ S', AG sL_execute sX8_execute [vR 7 0 0, vR 40 0 0] [vR 8 0 0] μ (SIM (u + 12) S') := by
  have T := I.ct
  have kx := k_execute I.yr I.ok I.hr hu T
  have gx : ∀ ν : fM, MI S ν → _ := fun ν M => g_execute (μ := ν) (a := S.a) (tx := S.tx) (n := S.n) (c := S.l.length) I.ok hu T.1 M.2.2.2.2.2.2.2.2.1 (fun i hi => ⟨M.2.2.2.2.2.2.2.2.2.1 i hi, (T.2.2 i hi).2⟩) M.2.2.2.2.2.2.2.2.2.2.2.2 I.2.2.2.2.2.1 M.2.1
  have fail : ∀ (ν ν' : fM) (rf er fl : Int32), CI (mkS S.a S.l S.sv S.tx 0 S.ln rf er fl) ν → MI S ν → sX' gxF ν ν' → ν'.1 8 0 0 6 = er → ν'.1 8 0 0 7 = fl → ν'.1 8 0 0 8 = rf → ν'.1 8 0 0 11 = 0 → -1 ≤ er → -1 ≤ fl → SIM (u + 12) (mkS S.a S.l S.sv S.tx 0 S.ln rf er fl) (gA ν' S.a) := fun ν ν' rf er fl C M hs h6 h7 h8 h11 he hf => by
    have ne : ∀ c y h k, ¬ c = 31 → ¬ c = 39 → ¬ (c = 8 ∧ (k = 6 ∨ k = 7 ∨ k = 8 ∨ k = 9 ∨ k = 11 ∨ 20 ≤ k)) → ¬ c = 30 → (gA ν' S.a).1 c y h k = ν.1 c y h k := fun c y h k q1 q2 q3 q4 => (gA_ne q4).trans (hs.1 c y h k (fun p => by
      rcases p with p | p | p | p
      · omega
      · omega
      · omega
      · omega))
    refine ⟨CI_out C (fun c y h k hc => ne c y h k (by unfold kC at hc; omega) (by unfold kC at hc; omega) (by unfold kC at hc; omega) (by unfold kC at hc; omega)) (fun y h k => by show ν'.2.1 6 y h k = _; rw [hs.2]), ?_, I.2.2.1.up (by omega) hu, fun b hb => (I.2.2.2.1 b hb).up (by omega) hu, fun b hb => (I.2.2.2.2.1 b hb).up (by omega) hu, I.2.2.2.2.2.1, he, hf, I.2.2.2.2.2.2.2.2⟩
    obtain ⟨m1, m2, m3, m4, m5, m6, m7, m8, m9, m10, m11, m12, m13⟩ := M
    exact ⟨fun k hk => gA_at' hk, (ne 8 _ _ _ (by omega) (by omega) (by omega) (by omega)).trans m2, fun j b' hj k hk => (ne 33 _ _ _ (by omega) (by omega) (by omega) (by omega)).trans (m3 j b' hj k hk), (ne 8 _ _ _ (by omega) (by omega) (by omega) (by omega)).trans m4, fun b hb k hk => (ne 32 _ _ _ (by omega) (by omega) (by omega) (by omega)).trans (m5 b hb k hk), (gA_ne (by decide)).trans h6, (gA_ne (by decide)).trans h7, (gA_ne (by decide)).trans h8, (gA_ne (by decide)).trans h11, fun i hi => absurd hi (Nat.not_lt_zero _), (ne 8 _ _ _ (by omega) (by omega) (by omega) (by omega)).trans m11, fun k hk => (ne 36 _ _ _ (by omega) (by omega) (by omega) (by omega)).trans (m12 k hk), LT_eq m13 (fun c k hc => ne c 0 0 k (by omega) (by omega) (by omega) (by omega))⟩
  have me := I.2.1.2.2.2.2.2.1
  have mf := I.2.1.2.2.2.2.2.2.1
  have mr := I.2.1.2.2.2.2.2.2.2.1
  cases hp : pP S.tx S.n 12 0 with
  | inl e =>
    obtain ⟨μ', c, Y', H', c7, c8, c9, c3, hs⟩ := kx.1 e hp
    have M1 := MI_kx I.2.1 hs
    obtain ⟨ν', m, n9, n6, n7, n8, n11, gs⟩ := (gx μ' M1).1 e hp
    rw [gA_self M1.1] at m
    exact ⟨mkS S.a S.l S.sv S.tx 0 S.ln S.rf (nI e) S.fl, 1, -1, _, _, w_execute1 c, m, (gA_ne (by decide)).trans n9, fun e => absurd e (by decide), fail μ' ν' _ _ _ (CI_ex I.1 Y' H' (c7.trans I.1.2.2.2.2.1) c8 (c9.trans I.1.2.2.2.2.2.2.1) c3 hs) M1 gs n6 (n7.trans M1.2.2.2.2.2.2.1) (n8.trans M1.2.2.2.2.2.2.2.1) n11 (m1_le (by have := pP_err (Nat.zero_le _) hp; have := T.1; omega)) I.2.2.2.2.2.2.2.1⟩
  | inr l =>
    have pa := (pP_all (Nat.zero_le _) hp).1
    have pl := (pP_all (Nat.zero_le _) hp).2
    have ro := rn_ok (i := 0) I.ok pa (by omega)
    cases hr : rn l 0 S.a with
    | inl f =>
      obtain ⟨μ', c, Y', H', c7, c8, c9, c3, hs⟩ := (kx.2 l hp).1 f hr
      have M1 := MI_kx I.2.1 hs
      obtain ⟨ν', m, n9, n6, n7, n8, n11, gs⟩ := ((gx μ' M1).2 l hp).1 f hr
      rw [gA_self M1.1] at m
      have fb := ro.2 f hr
      refine ⟨mkS S.a S.l S.sv S.tx 0 S.ln (if f.2 = 0 then S.rf else nI f.2) S.er (nI f.1), 2, -1, _, _, w_execute2 c, m, (gA_ne (by decide)).trans n9, fun e => absurd e (by decide), fail μ' ν' _ _ _ (CI_ex I.1 Y' H' (c7.trans (by rw [I.1.2.2.2.2.1])) (c8.trans I.1.2.2.2.2.2.1) c9 c3 hs) M1 gs (n6.trans M1.2.2.2.2.2.1) n7 (n8.trans (by rw [M1.2.2.2.2.2.2.2.1])) n11 I.2.2.2.2.2.2.1 (m1_le (by omega))⟩
    | inr a' =>
      obtain ⟨μ', c, Y', H', c7, c8, c9, c3, hs⟩ := (kx.2 l hp).2 a' hr
      have w := w_execute c
      have C1 := CI_fJ (v := (nI l.length).toInt64) (CI_ex I.1 Y' H' (c7.trans I.1.2.2.2.2.1) (c8.trans I.1.2.2.2.2.2.1) (c9.trans I.1.2.2.2.2.2.2.1) c3 hs)
      have M1 := MI_fJ (v := (nI l.length).toInt64) (MI_kx I.2.1 hs)
      have at40 : (fJ μ' 40 0 0 0 (nI l.length).toInt64).2.1 40 0 0 0 = (nI l.length).toInt64 := fJ_at
      revert w M1 C1 at40
      generalize fJ μ' 40 0 0 0 (nI l.length).toInt64 = ν
      intro w C1 M1 at40
      obtain ⟨ν', m, n9, n11, n31, gs⟩ := ((gx ν M1).2 l hp).2 a' hr
      rw [gA_self M1.1] at m
      have ne : ∀ c y h k, ¬ c = 30 → ¬ c = 31 → ¬ c = 39 → ¬ (c = 8 ∧ (k = 9 ∨ k = 11 ∨ 20 ≤ k)) → ν'.1 c y h k = ν.1 c y h k := fun c y h k q1 q2 q3 q4 => gs.1 c y h k (fun p => by
        rcases p with p | p | p | p
        · omega
        · omega
        · omega
        · omega)
      have M2 : MIt (S.st S.tx 0) ν' := by
        obtain ⟨m1, m2, m3, m4, m5, m6, m7, m8, m9, m10, m11, m12, m13⟩ := M1
        exact ⟨(ne 8 _ _ _ (by omega) (by omega) (by omega) (by omega)).trans m2, fun j b' hj k hk => (ne 33 _ _ _ (by omega) (by omega) (by omega) (by omega)).trans (m3 j b' hj k hk), (ne 8 _ _ _ (by omega) (by omega) (by omega) (by omega)).trans m4, fun b hb k hk => (ne 32 _ _ _ (by omega) (by omega) (by omega) (by omega)).trans (m5 b hb k hk), (ne 8 _ _ _ (by omega) (by omega) (by omega) (by omega)).trans m6, (ne 8 _ _ _ (by omega) (by omega) (by omega) (by omega)).trans m7, (ne 8 _ _ _ (by omega) (by omega) (by omega) (by omega)).trans m8, n11, fun i hi => absurd hi (Nat.not_lt_zero _), (ne 8 _ _ _ (by omega) (by omega) (by omega) (by omega)).trans m11, fun k hk => (ne 36 _ _ _ (by omega) (by omega) (by omega) (by omega)).trans (m12 k hk), LT_eq m13 (fun c k hc => ne c 0 0 k (by omega) (by omega) (by omega) (by omega))⟩
      have C2 : CI (mkS a' (kp S.l S.a) S.sv S.tx 0 S.ln S.rf S.er S.fl) ν' := CI_out C1 (fun c y h k hc => ne c y h k (by unfold kC at hc; omega) (by unfold kC at hc; omega) (by unfold kC at hc; omega) (by unfold kC at hc; omega)) (fun y h k => by rw [gs.2])
      refine ⟨mkS a' (kp S.l S.a) S.sv S.tx 0 S.ln S.rf S.er S.fl, 0, _, _, _, w, m, ?_, fun _ => ?_, ?_⟩
      · rw [gA_ne (by decide), gKeep_ne (by decide) (by decide), n9]
      · show (gKeep ν' S.l.length).2.1 40 0 0 0 = _
        rw [gKeep_2, gs.2]
        exact at40
      · exact SIM_kp (S := S.st S.tx 0) C2 M2 n31 I.2.2.2.2.2.1 rfl (SO_md (S := S.st S.tx 0) I.2.2 hu ((ro.1 a' hr).up (by omega) hu))
