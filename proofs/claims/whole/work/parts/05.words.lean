/-! WORDS: the good words of the tables, for every method the same -/
def fT : List Jvm.Cond := lw_tbl.filter goodWord
theorem fT_mem {w : Jvm.Cond} (i : Nat) (h : lw_tbl[i]? = some w) (g : goodWord w = true) : w ∈ fT := List.mem_filter.mpr ⟨List.mem_of_getElem? h, g⟩
theorem fT_good {w : Jvm.Cond} (h : w ∈ fT) : goodWord w = true := (List.mem_filter.mp h).2
abbrev fct (a : Nat) : vw_C := fcl.getD a (RX0, TX0, 3)
def ffw (own : String) (q : Nat × Nat × Nat × Nat) : Jvm.Cond := .fieldLink own q.1 ((fct q.2.1).2.1 q.2.2.1).1 ((fct q.2.1).2.1 q.2.2.1).2.1 ((fct q.2.1).2.1 q.2.2.1).2.2.1
/-- the fields that a class' code names: constant, kind, field, place among the tables' words -/
def ffl_ok (own : String) (fl : List (Nat × Nat × Nat × Nat)) : Prop := ∀ q ∈ fl, ffw own q ∈ fT
theorem ffl_of {own : String} {fl : List (Nat × Nat × Nat × Nat)} (h : ∀ q ∈ fl, lw_tbl[q.2.2.2]? = some (ffw own q)) : ffl_ok own fl := fun q hq => fT_mem _ (h q hq) rfl
def flX0 : List (Nat × Nat × Nat × Nat) := [(11, 0, 0, 239), (18, 0, 1, 240), (22, 0, 2, 241)]
theorem flX0_ok : ffl_ok RX0 flX0 := ffl_of (by decide +kernel)
def flX1 : List (Nat × Nat × Nat × Nat) := [(9, 1, 0, 158), (15, 1, 1, 160), (18, 1, 2, 162), (21, 1, 4, 171), (31, 1, 3, 167), (34, 1, 5, 175), (37, 1, 6, 177)]
theorem flX1_ok : ffl_ok RX1 flX1 := ffl_of (by decide +kernel)
def flX2 : List (Nat × Nat × Nat × Nat) := [(9, 2, 0, 125), (15, 2, 1, 127), (18, 2, 2, 129), (21, 2, 3, 130), (24, 2, 4, 131), (34, 2, 5, 132), (38, 2, 6, 135), (47, 1, 4, 172), (52, 1, 3, 169)]
theorem flX2_ok : ffl_ok RX2 flX2 := ffl_of (by decide +kernel)
def flX3 : List (Nat × Nat × Nat × Nat) := [(9, 3, 0, 256), (15, 3, 2, 259), (19, 3, 3, 261), (22, 3, 1, 257), (52, 3, 4, 262), (55, 3, 6, 266), (58, 3, 5, 264)]
theorem flX3_ok : ffl_ok RX3 flX3 := ffl_of (by decide +kernel)
def flX4 : List (Nat × Nat × Nat × Nat) := [(9, 4, 0, 334), (15, 4, 1, 335), (19, 4, 2, 336), (22, 6, 0, 199), (34, 6, 2, 204), (37, 1, 3, 166), (44, 6, 4, 209)]
theorem flX4_ok : ffl_ok RX4 flX4 := ffl_of (by decide +kernel)
def flX5 : List (Nat × Nat × Nat × Nat) := [(11, 5, 0, 324), (16, 1, 3, 165)]
theorem flX5_ok : ffl_ok RX5 flX5 := ffl_of (by decide +kernel)
def flX6 : List (Nat × Nat × Nat × Nat) := [(11, 6, 0, 198), (17, 6, 1, 201), (21, 6, 2, 203), (27, 6, 3, 206), (51, 6, 4, 208), (55, 6, 5, 211), (58, 6, 6, 213), (69, 1, 3, 168), (110, 1, 4, 173), (119, 2, 5, 133), (125, 2, 1, 128), (137, 1, 2, 164), (144, 1, 6, 179), (159, 1, 5, 176)]
theorem flX6_ok : ffl_ok RX6 flX6 := ffl_of (by decide +kernel)
def flX7 : List (Nat × Nat × Nat × Nat) := [(10, 7, 0, 346), (19, 7, 1, 347), (23, 7, 2, 348), (29, 7, 4, 350), (33, 7, 5, 351), (39, 7, 6, 352), (43, 7, 8, 354), (47, 7, 9, 355), (53, 7, 10, 356), (60, 7, 11, 357), (67, 7, 12, 358), (75, 6, 4, 210), (82, 1, 4, 174), (85, 1, 3, 170), (95, 1, 0, 159), (99, 1, 1, 161), (108, 1, 2, 163), (111, 1, 6, 178), (150, 6, 5, 212), (170, 6, 1, 202), (203, 6, 2, 205), (216, 6, 3, 207), (220, 2, 5, 134), (227, 2, 0, 126), (238, 6, 0, 200), (246, 6, 6, 214), (252, 7, 7, 353), (286, 3, 1, 258), (296, 3, 5, 265), (306, 3, 4, 263), (313, 0, 2, 242), (324, 7, 3, 349), (349, 3, 2, 260)]
theorem flX7_ok : ffl_ok RX7 flX7 := ffl_of (by decide +kernel)
def flX8 : List (Nat × Nat × Nat × Nat) := [(9, 8, 0, 1563), (13, 8, 1, 1564), (16, 8, 2, 1565), (19, 8, 4, 1567), (22, 8, 6, 1569), (26, 8, 7, 1570), (29, 8, 10, 1573), (32, 8, 12, 1575), (35, 8, 15, 1578), (38, 8, 17, 1580), (42, 8, 18, 1581), (45, 8, 19, 1582), (48, 8, 9, 1572), (51, 8, 5, 1568), (126, 8, 8, 1571), (197, 8, 13, 1576), (200, 8, 14, 1577), (216, 8, 16, 1579), (230, 8, 11, 1574), (233, 8, 21, 1584), (236, 8, 22, 1585), (239, 8, 23, 1586), (265, 8, 20, 1583), (281, 8, 3, 1566)]
theorem flX8_ok : ffl_ok RX8 flX8 := ffl_of (by decide +kernel)
theorem uwX0_ok : ∀ w ∈ u_ws RX0 TX0 3, w ∈ fT := by
  have h : ∀ q ∈ (u_ws RX0 TX0 3).zip [243, 245, 247], lw_tbl[q.2]? = some q.1 := by decide +kernel
  have g : ∀ w ∈ u_ws RX0 TX0 3, goodWord w = true := by decide +kernel
  have z : ((u_ws RX0 TX0 3).zip [243, 245, 247]).map Prod.fst = u_ws RX0 TX0 3 := by decide +kernel
  intro w hw
  rw [← z] at hw
  obtain ⟨q, hq, rfl⟩ := List.mem_map.mp hw
  exact fT_mem _ (h q hq) (g _ (by rw [← z]; exact List.mem_map.mpr ⟨q, hq, rfl⟩))
theorem uwX1_ok : ∀ w ∈ u_ws RX1 TX1 7, w ∈ fT := by
  have h : ∀ q ∈ (u_ws RX1 TX1 7).zip [180, 182, 184, 186, 188, 190, 192], lw_tbl[q.2]? = some q.1 := by decide +kernel
  have g : ∀ w ∈ u_ws RX1 TX1 7, goodWord w = true := by decide +kernel
  have z : ((u_ws RX1 TX1 7).zip [180, 182, 184, 186, 188, 190, 192]).map Prod.fst = u_ws RX1 TX1 7 := by decide +kernel
  intro w hw
  rw [← z] at hw
  obtain ⟨q, hq, rfl⟩ := List.mem_map.mp hw
  exact fT_mem _ (h q hq) (g _ (by rw [← z]; exact List.mem_map.mpr ⟨q, hq, rfl⟩))
theorem uwX2_ok : ∀ w ∈ u_ws RX2 TX2 7, w ∈ fT := by
  have h : ∀ q ∈ (u_ws RX2 TX2 7).zip [136, 138, 140, 142, 144, 146, 148], lw_tbl[q.2]? = some q.1 := by decide +kernel
  have g : ∀ w ∈ u_ws RX2 TX2 7, goodWord w = true := by decide +kernel
  have z : ((u_ws RX2 TX2 7).zip [136, 138, 140, 142, 144, 146, 148]).map Prod.fst = u_ws RX2 TX2 7 := by decide +kernel
  intro w hw
  rw [← z] at hw
  obtain ⟨q, hq, rfl⟩ := List.mem_map.mp hw
  exact fT_mem _ (h q hq) (g _ (by rw [← z]; exact List.mem_map.mpr ⟨q, hq, rfl⟩))
theorem uwX3_ok : ∀ w ∈ u_ws RX3 TX3 7, w ∈ fT := by
  have h : ∀ q ∈ (u_ws RX3 TX3 7).zip [267, 269, 271, 273, 275, 277, 279], lw_tbl[q.2]? = some q.1 := by decide +kernel
  have g : ∀ w ∈ u_ws RX3 TX3 7, goodWord w = true := by decide +kernel
  have z : ((u_ws RX3 TX3 7).zip [267, 269, 271, 273, 275, 277, 279]).map Prod.fst = u_ws RX3 TX3 7 := by decide +kernel
  intro w hw
  rw [← z] at hw
  obtain ⟨q, hq, rfl⟩ := List.mem_map.mp hw
  exact fT_mem _ (h q hq) (g _ (by rw [← z]; exact List.mem_map.mpr ⟨q, hq, rfl⟩))
theorem uwX4_ok : ∀ w ∈ u_ws RX4 TX4 3, w ∈ fT := by
  have h : ∀ q ∈ (u_ws RX4 TX4 3).zip [337, 339, 341], lw_tbl[q.2]? = some q.1 := by decide +kernel
  have g : ∀ w ∈ u_ws RX4 TX4 3, goodWord w = true := by decide +kernel
  have z : ((u_ws RX4 TX4 3).zip [337, 339, 341]).map Prod.fst = u_ws RX4 TX4 3 := by decide +kernel
  intro w hw
  rw [← z] at hw
  obtain ⟨q, hq, rfl⟩ := List.mem_map.mp hw
  exact fT_mem _ (h q hq) (g _ (by rw [← z]; exact List.mem_map.mpr ⟨q, hq, rfl⟩))
theorem uwX5_ok : ∀ w ∈ u_ws RX5 TX5 1, w ∈ fT := by
  have h : ∀ q ∈ (u_ws RX5 TX5 1).zip [325], lw_tbl[q.2]? = some q.1 := by decide +kernel
  have g : ∀ w ∈ u_ws RX5 TX5 1, goodWord w = true := by decide +kernel
  have z : ((u_ws RX5 TX5 1).zip [325]).map Prod.fst = u_ws RX5 TX5 1 := by decide +kernel
  intro w hw
  rw [← z] at hw
  obtain ⟨q, hq, rfl⟩ := List.mem_map.mp hw
  exact fT_mem _ (h q hq) (g _ (by rw [← z]; exact List.mem_map.mpr ⟨q, hq, rfl⟩))
theorem uwX6_ok : ∀ w ∈ u_ws RX6 TX6 7, w ∈ fT := by
  have h : ∀ q ∈ (u_ws RX6 TX6 7).zip [215, 217, 219, 221, 223, 225, 227], lw_tbl[q.2]? = some q.1 := by decide +kernel
  have g : ∀ w ∈ u_ws RX6 TX6 7, goodWord w = true := by decide +kernel
  have z : ((u_ws RX6 TX6 7).zip [215, 217, 219, 221, 223, 225, 227]).map Prod.fst = u_ws RX6 TX6 7 := by decide +kernel
  intro w hw
  rw [← z] at hw
  obtain ⟨q, hq, rfl⟩ := List.mem_map.mp hw
  exact fT_mem _ (h q hq) (g _ (by rw [← z]; exact List.mem_map.mpr ⟨q, hq, rfl⟩))
theorem uwX7_ok : ∀ w ∈ u_ws RX7 TX7 13, w ∈ fT := by
  have h : ∀ q ∈ (u_ws RX7 TX7 13).zip [359, 361, 363, 365, 367, 369, 371, 373, 375, 377, 379, 381, 383], lw_tbl[q.2]? = some q.1 := by decide +kernel
  have g : ∀ w ∈ u_ws RX7 TX7 13, goodWord w = true := by decide +kernel
  have z : ((u_ws RX7 TX7 13).zip [359, 361, 363, 365, 367, 369, 371, 373, 375, 377, 379, 381, 383]).map Prod.fst = u_ws RX7 TX7 13 := by decide +kernel
  intro w hw
  rw [← z] at hw
  obtain ⟨q, hq, rfl⟩ := List.mem_map.mp hw
  exact fT_mem _ (h q hq) (g _ (by rw [← z]; exact List.mem_map.mpr ⟨q, hq, rfl⟩))
theorem uwX8_ok : ∀ w ∈ u_ws RX8 TX8 24, w ∈ fT := by
  have h : ∀ q ∈ (u_ws RX8 TX8 24).zip [1587, 1589, 1591, 1593, 1595, 1597, 1599, 1601, 1603, 1605, 1607, 1609, 1611, 1613, 1615, 1617, 1619, 1621, 1623, 1625, 1627, 1629, 1631, 1633], lw_tbl[q.2]? = some q.1 := by decide +kernel
  have g : ∀ w ∈ u_ws RX8 TX8 24, goodWord w = true := by decide +kernel
  have z : ((u_ws RX8 TX8 24).zip [1587, 1589, 1591, 1593, 1595, 1597, 1599, 1601, 1603, 1605, 1607, 1609, 1611, 1613, 1615, 1617, 1619, 1621, 1623, 1625, 1627, 1629, 1631, 1633]).map Prod.fst = u_ws RX8 TX8 24 := by decide +kernel
  intro w hw
  rw [← z] at hw
  obtain ⟨q, hq, rfl⟩ := List.mem_map.mp hw
  exact fT_mem _ (h q hq) (g _ (by rw [← z]; exact List.mem_map.mpr ⟨q, hq, rfl⟩))
theorem f_lt9 {P : Nat → Prop} (h0 : P 0) (h1 : P 1) (h2 : P 2) (h3 : P 3) (h4 : P 4) (h5 : P 5) (h6 : P 6) (h7 : P 7) (h8 : P 8) : ∀ a, a < 9 → P a := fun a ha => match a, ha with
  | 0, _ => h0
  | 1, _ => h1
  | 2, _ => h2
  | 3, _ => h3
  | 4, _ => h4
  | 5, _ => h5
  | 6, _ => h6
  | 7, _ => h7
  | 8, _ => h8
theorem fuw_ok : ∀ a, a < 9 → ∀ w ∈ u_ws (fct a).1 (fct a).2.1 (fct a).2.2, w ∈ fT := f_lt9 uwX0_ok uwX1_ok uwX2_ok uwX3_ok uwX4_ok uwX5_ok uwX6_ok uwX7_ok uwX8_ok
theorem fnm_ok : ∀ a, a < 9 → ∀ i, i < (fct a).2.2 → ∀ j, j < (fct a).2.2 → i ≠ j → ((fct a).2.1 i).2.1 ≠ ((fct a).2.1 j).2.1 := f_lt9 nmX0 nmX1 nmX2 nmX3 nmX4 nmX5 nmX6 nmX7 nmX8
theorem fty_ok : ∀ a, a < 9 → ∃ ty : Nat → FieldType, ∀ k, k < (fct a).2.2 → parseFieldDescriptor ((fct a).2.1 k).2.2.1 = some (ty k) := f_lt9 ⟨_, tyX0_ok⟩ ⟨_, tyX1_ok⟩ ⟨_, tyX2_ok⟩ ⟨_, tyX3_ok⟩ ⟨_, tyX4_ok⟩ ⟨_, tyX5_ok⟩ ⟨_, tyX6_ok⟩ ⟨_, tyX7_ok⟩ ⟨_, tyX8_ok⟩
theorem fnf_ok : ∀ a, a < 9 → (fct a).2.2 = fnf a := by decide +kernel
theorem fcl_at : ∀ a, a < 9 → fcl[a]? = some (fct a) := by
  refine f_lt9 ?_ ?_ ?_ ?_ ?_ ?_ ?_ ?_ ?_ <;> rfl
/-- what the code of a field says of its type -/
def fcty (n : Nat) : FieldType := match n with
  | 0 => .int
  | 1 => .boolean
  | _ => .long
theorem fcty_ok : ∀ a, a < 9 → ∀ k, k < fnf a → (fkfL.getD a []).getD k 0 < 3 → parseFieldDescriptor ((fct a).2.1 k).2.2.1 = some (fcty ((fkfL.getD a []).getD k 0)) := by decide +kernel
section FRG
variable {p : Program} {l : Launch} {e : Env} {R : Room} {s : State} {m : MethodId} {args : Array Value} {below : List Frame} {meth : Method} {c : Code} {H : Heap} {locs : List Loc} {cells slots : Nat} {Q : State → Prop}
variable {cc : ByteArray} {pc : Nat} {ls : Array Slot} {rest : List Value} {G : fG} {μ : fM} {q y h : Nat} {i : Int32} {own : String} {index k : Nat}
theorem fr_get (hx : p.tables.exec = Jvm.exec) (hb : c.code = cc) (hts : ∀ w ∈ fT, w.before args s = true) (hown : s.vm.findClass own = some m.cls) (hK : va_K G.2.1 fcl (ftys G) s) (hM : fMem G μ H) (hr : (q, y, h) ∈ frefs) (hq : q < 9) (hk : k < fnf q) {z : Nat} (hl : ffw own (index, q, k, z) ∈ fT) (hdg : decode cc pc = .ok (.getfield index, 3))
    (kk : W p l e R s m args below meth c H locs cells slots Q (F0 m (pc + 3) ls (ftv G (ffv μ q y h k) :: rest))) : W p l e R s m args below meth c H locs cells slots Q (F0 m pc ls (.ref (G.1 (q, y, h)) :: rest)) := by
  obtain ⟨j, hj⟩ := fidx hr
  exact va_get (C := (fct q).1) (T := (fct q).2.1) (N := (fct q).2.2) (ci := q) hx hb hts (fuw_ok q hq) hown hK hM.1 j (by rw [fws_at hj, fcell_o hq]) (fcl_at q hq) k (by rw [fnf_ok q hq]; exact hk) (hts _ hl) (fun _ h9 => h9) (ffs_at hk) hdg kk
theorem fw_put {v : Value} {μ' : fM} {ty : FieldType} (hx : p.tables.exec = Jvm.exec) (hb : c.code = cc) (hts : ∀ w ∈ fT, w.before args s = true) (hown : s.vm.findClass own = some m.cls) (hK : va_K G.2.1 fcl (ftys G) s) (hG : fWf G) (hM : fMem G μ H) (hS : va_S (fA G) s.heap H locs) (hr : (q, y, h) ∈ frefs) (hq : q < 9) (hk : k < fnf q) {z : Nat} (hl : ffw own (index, q, k, z) ∈ fT) (hfin : ((fct q).2.1 k).2.2.2 = false)
    (hd : parseFieldDescriptor ((fct q).2.1 k).2.2.1 = some ty) (hn : narrow ty v = v) (hfit : fits ty v = true) (he : ffs G μ' q y h = (ffs G μ q y h).set k v) (hs : ∀ r' ∈ frefs, r' ≠ (q, y, h) → fcell G μ' r' = fcell G μ r') (h51 : ∀ y j, μ'.1 51 y 0 j = μ.1 51 y 0 j) (hdg : decode cc pc = .ok (.putfield index, 3))
    (kk : ∀ (H1 : Heap) (locs1 : List Loc), fMem G μ' H1 → va_S (fA G) s.heap H1 locs1 → W p l e R s m args below meth c H1 locs1 cells slots Q (F0 m (pc + 3) ls rest)) : W p l e R s m args below meth c H locs cells slots Q (F0 m pc ls (v :: .ref (G.1 (q, y, h)) :: rest)) := by
  obtain ⟨j, hj⟩ := fidx hr
  obtain ⟨sw, hP, hD, hback⟩ := fMem_open hG hM
  obtain ⟨ty0, hty⟩ := fty_ok q hq
  refine va_put (C := (fct q).1) (T := (fct q).2.1) (N := (fct q).2.2) (ci := q) hx hb hts (fuw_ok q hq) ty0 hty (fnm_ok q hq) hown hK hP hD hS j (by rw [fopen_at hj, fcell_o hq]) (fcl_at q hq) k (by rw [fnf_ok q hq]; exact hk) (hts _ hl) (fun _ h9 => h9) hfin hd hn hfit (by rw [ffs_len]; exact hk) hdg (fun H1 locs1 hP1 hD1 hS1 => kk H1 locs1 (hback μ' H1 h51 ?_) hS1)
  rw [fopen_set hj (by rw [fcell_o hq, he]) hs] at hP1
  exact hP1
theorem fr_aald {t : Nat} (hx : p.tables.exec = Jvm.exec) (hb : c.code = cc) (hK : va_K G.2.1 fcl (ftys G) s) (hM : fMem G μ H) (hr : (q, y, h) ∈ frefs) (hc : (fal q).1 = t) (ht : 5 ≤ t ∧ t ≤ 7) (hin : fin i (fal q).2) (hdg : decode cc pc = .ok (.aaload, 1))
    (kk : W p l e R s m args below meth c H locs cells slots Q (F0 m (pc + 1) ls (.ref (G.1 (fel q y i.toNatClampNeg)) :: rest))) : W p l e R s m args below meth c H locs cells slots Q (F0 m pc ls (.int i :: .ref (G.1 (q, y, h)) :: rest)) := by
  obtain ⟨j, hj⟩ := fidx hr
  have hlt : i.toNatClampNeg < (fal q).2 := Nat.not_le.mp fun q => hin (Or.inr q)
  have ha : (fws G μ)[j]? = some (G.1 (q, y, h), .inl (G.2.2.1 t, (fal q).2, .inr (.inr (.inr (.inr (fun j => some (G.1 (fel q y j)))))))) := by
    rw [fws_at hj, fcell_a (fal_ge (by omega)), hc]
    have : t = 5 ∨ t = 6 ∨ t = 7 := by omega
    rcases this with rfl | rfl | rfl <;> simp only [facon, hc]
  have ht3 : t = 5 ∨ t = 6 ∨ t = 7 := by omega
  rcases ht3 with rfl | rfl | rfl
  · exact W.aald (v := .ref (G.1 (fel q y i.toNatClampNeg))) (ty := .object "PuddleBoatyard$Hull") hx hb (hM.1 j _ ha) ((hK.2 5 _ (ftys_at G 5 (by omega))).1 _ (fun j => va_rf (some (G.1 (fel q y j))))) rfl (fun q => by cases q) (by show ¬ (i < 0 ∨ (arrV _ _ _).slots.size ≤ _); rw [arrV_size]; exact hin) (by show (arrV _ _ _).slots[_]? = _; rw [arrV_read _ _ hlt]; rfl) rfl rfl hdg kk
  · exact W.aald (v := .ref (G.1 (fel q y i.toNatClampNeg))) (ty := .object "PuddleBoatyard$Yard") hx hb (hM.1 j _ ha) ((hK.2 6 _ (ftys_at G 6 (by omega))).1 _ (fun j => va_rf (some (G.1 (fel q y j))))) rfl (fun q => by cases q) (by show ¬ (i < 0 ∨ (arrV _ _ _).slots.size ≤ _); rw [arrV_size]; exact hin) (by show (arrV _ _ _).slots[_]? = _; rw [arrV_read _ _ hlt]; rfl) rfl rfl hdg kk
  · exact W.aald (v := .ref (G.1 (fel q y i.toNatClampNeg))) (ty := .array .int) hx hb (hM.1 j _ ha) ((hK.2 7 _ (ftys_at G 7 (by omega))).1 _ (fun j => va_rf (some (G.1 (fel q y j))))) rfl (fun q => by cases q) (by show ¬ (i < 0 ∨ (arrV _ _ _).slots.size ≤ _); rw [arrV_size]; exact hin) (by show (arrV _ _ _).slots[_]? = _; rw [arrV_read _ _ hlt]; rfl) rfl rfl hdg kk
end FRG
