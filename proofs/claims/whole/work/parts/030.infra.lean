theorem mem_places {big : List Cond} (ws : List Cond) (ps : List Nat) (hp : ws = ps.filterMap (fun i => big[i]?)) : ∀ w ∈ ws, w ∈ big := by
  intro w hw
  rw [hp] at hw
  obtain ⟨i, -, hi⟩ := List.mem_filterMap.mp hw
  exact List.mem_of_getElem? hi
set_option maxRecDepth 20000 in
theorem inX0 : ∀ w ∈ u_ws RX0 TX0 5, w ∈ lw_tbl := mem_places _ [363, 365, 367, 369, 371] (by decide +kernel)
set_option maxRecDepth 20000 in
theorem inX1 : ∀ w ∈ u_ws RX1 TX1 5, w ∈ lw_tbl := mem_places _ [241, 243, 245, 247, 249] (by decide +kernel)
set_option maxRecDepth 20000 in
theorem inX2 : ∀ w ∈ u_ws RX2 TX2 3, w ∈ lw_tbl := mem_places _ [447, 449, 451] (by decide +kernel)
set_option maxRecDepth 20000 in
theorem inX3 : ∀ w ∈ u_ws RX3 TX3 7, w ∈ lw_tbl := mem_places _ [278, 280, 282, 284, 286, 288, 290] (by decide +kernel)
set_option maxRecDepth 20000 in
theorem inX4 : ∀ w ∈ u_ws RX4 TX4 6, w ∈ lw_tbl := mem_places _ [301, 303, 307, 309, 311, 305] (by decide +kernel)
set_option maxRecDepth 20000 in
theorem inX5 : ∀ w ∈ u_ws RX5 TX5 2, w ∈ lw_tbl := mem_places _ [431, 433] (by decide +kernel)
set_option maxRecDepth 20000 in
theorem inX6 : ∀ w ∈ u_ws RX6 TX6 6, w ∈ lw_tbl := mem_places _ [391, 393, 395, 397, 399, 401] (by decide +kernel)
set_option maxRecDepth 20000 in
theorem inX7 : ∀ w ∈ u_ws RX7 TX7 5, w ∈ lw_tbl := mem_places _ [337, 339, 341, 343, 345] (by decide +kernel)
set_option maxRecDepth 20000 in
theorem inX8 : ∀ w ∈ u_ws RX8 TX8 5, w ∈ lw_tbl := mem_places _ [197, 199, 201, 203, 205] (by decide +kernel)
set_option maxRecDepth 20000 in
theorem inX9 : ∀ w ∈ u_ws RX9 TX9 4, w ∈ lw_tbl := mem_places _ [465, 467, 469, 471] (by decide +kernel)
set_option maxRecDepth 20000 in
theorem inX10 : ∀ w ∈ u_ws RX10 TX10 3, w ∈ lw_tbl := mem_places _ [415, 417, 419] (by decide +kernel)
set_option maxRecDepth 20000 in
theorem inX11 : ∀ w ∈ u_ws RX11 TX11 17, w ∈ lw_tbl := mem_places _ [491, 493, 495, 497, 499, 501, 503, 505, 507, 509, 511, 513, 515, 517, 519, 521, 523] (by decide +kernel)
set_option maxRecDepth 20000 in
theorem inX12 : ∀ w ∈ u_ws RX12 TX12 69, w ∈ lw_tbl := mem_places _ [1256, 1258, 1260, 1262, 1264, 1266, 1268, 1270, 1272, 1274, 1276, 1278, 1280, 1282, 1284, 1286, 1288, 1290, 1292, 1294, 1296, 1298, 1300, 1302, 1304, 1306, 1308, 1310, 1312, 1314, 1316, 1318, 1320, 1322, 1324, 1326, 1328, 1330, 1332, 1334, 1336, 1338, 1340, 1342, 1344, 1346, 1348, 1350, 1352, 1354, 1356, 1358, 1360, 1362, 1364, 1366, 1368, 1370, 1372, 1374, 1376, 1378, 1380, 1382, 1384, 1386, 1388, 1390, 1392] (by decide +kernel)
abbrev classes : List vw_C := [(RX0, TX0, 5), (RX1, TX1, 5), (RX2, TX2, 3), (RX3, TX3, 7), (RX4, TX4, 6), (RX5, TX5, 2), (RX6, TX6, 6), (RX7, TX7, 5), (RX8, TX8, 5), (RX9, TX9, 4), (RX10, TX10, 3), (RX11, TX11, 17), (RX12, TX12, 69)]
def FTL : List (List Nat) := [[1, 82, 89, 0, 0], [1, 2, 3, 4, 0], [1, 2, 0], [1, 2, 0, 0, 0, 0, 0], [1, 6, 0, 0, 0, 13], [1, 2], [0, 1, 3, 10, 18, 0], [1, 0, 0, 0, 0], [1, 2, 3, 4, 0], [1, 2, 3, 0], [1, 2, 0], [1, 2, 16, 23, 25, 27, 29, 119, 138, 157, 176, 179, 182, 185, 189, 0, 0], [0, 1, 0, 2, 0, 3, 4, 5, 6, 7, 0, 0, 0, 0, 0, 0, 0, 0, 0, 0, 8, 9, 10, 11, 12, 13, 14, 15, 16, 17, 18, 19, 20, 0, 21, 22, 23, 24, 25, 0, 26, 27, 28, 0, 29, 30, 0, 31, 32, 0, 0, 33, 34, 0, 35, 36, 37, 38, 39, 40, 41, 42, 43, 0, 44, 45, 46, 47, 48]]
def FT (t k : Nat) : Nat := (FTL.getD t []).getD k 0
def DSC : List (Nat × Nat) := [(106, 0), (11, 17), (102, 2000), (4, 6), (8, 5), (103, 21), (100, 401), (103, 401), (100, 401), (3, 7), (100, 30), (1, 5), (100, 416), (100, 416), (100, 4), (100, 32), (103, 6), (3, 7), (100, 30), (1, 5), (100, 416), (100, 416), (100, 4), (100, 32), (7, 5), (100, 42), (7, 5), (100, 42), (7, 5), (100, 42), (0, 5), (104, 40), (7, 5), (100, 42), (7, 5), (100, 42), (7, 5), (100, 42), (7, 5), (100, 42), (7, 5), (100, 42), (7, 5), (100, 42), (7, 5), (100, 42), (7, 5), (100, 42), (7, 5), (100, 42), (7, 5), (100, 42), (7, 5), (100, 42), (7, 5), (100, 42), (7, 5), (100, 42), (7, 5), (100, 42), (7, 5), (100, 42), (7, 5), (100, 42), (7, 5), (100, 42), (7, 5), (100, 42), (7, 5), (100, 42), (7, 5), (100, 42), (7, 5), (100, 42), (7, 5), (100, 42), (7, 5), (100, 42), (7, 5), (100, 42), (7, 5), (100, 42), (7, 5), (100, 42), (7, 5), (100, 42), (7, 5), (100, 42), (7, 5), (100, 42), (7, 5), (100, 42), (7, 5), (100, 42), (7, 5), (100, 42), (7, 5), (100, 42), (7, 5), (100, 42), (7, 5), (100, 42), (7, 5), (100, 42), (7, 5), (100, 42), (7, 5), (100, 42), (7, 5), (100, 42), (7, 5), (100, 42), (104, 3), (7, 5), (100, 42), (7, 5), (100, 42), (7, 5), (100, 42), (101, 3), (6, 6), (7, 5), (100, 42), (105, 6), (100, 31), (100, 31), (100, 31), (100, 31), (100, 31), (100, 31), (105, 7), (100, 31), (100, 31), (100, 31), (100, 31), (100, 31), (100, 31), (100, 31), (100, 6), (6, 6), (7, 5), (100, 42), (105, 6), (100, 11), (100, 11), (100, 11), (100, 11), (100, 11), (100, 11), (105, 7), (100, 11), (100, 11), (100, 11), (100, 11), (100, 11), (100, 11), (100, 11), (100, 6), (6, 6), (7, 5), (100, 42), (105, 6), (100, 11), (100, 11), (100, 11), (100, 11), (100, 11), (100, 11), (105, 7), (100, 11), (100, 11), (100, 11), (100, 11), (100, 11), (100, 11), (100, 11), (100, 6), (10, 3), (100, 6), (100, 6), (5, 2), (100, 6), (100, 6), (2, 3), (100, 6), (100, 6), (9, 4), (100, 20), (100, 20), (101, 20), (100, 3)]
def DSM : List (Nat × Nat) := [(12, 69), (102, 2000), (102, 2000), (100, 403), (100, 403), (100, 403), (103, 403), (103, 21), (103, 6), (100, 2), (100, 12), (100, 12), (100, 12), (100, 12), (100, 12), (100, 2), (100, 2), (100, 2), (100, 2), (100, 8), (100, 8), (101, 260), (100, 260), (100, 260), (100, 260), (100, 260), (100, 840), (100, 840), (100, 64), (100, 9), (100, 400), (100, 39), (100, 39), (100, 6), (100, 6), (100, 1560), (100, 186), (100, 217), (100, 39), (100, 384), (100, 6), (100, 6), (100, 6), (100, 64), (100, 20), (100, 20), (101, 20), (101, 3), (100, 117)]
def tblG : List Cond := lw_tbl.filter goodWord
theorem tg {w : Cond} (h : w ∈ lw_tbl) (hg : goodWord w = true) : w ∈ tblG := List.mem_filter.mpr ⟨h, hg⟩
theorem tg_lay {C : String} {T : u_T} {N : Nat} (h : ∀ w ∈ u_ws C T N, w ∈ lw_tbl) : ∀ w ∈ u_ws C T N, w ∈ tblG := by
  intro w hw
  refine tg (h w hw) ?_
  obtain ⟨k, -, rfl⟩ := List.mem_map.mp hw
  unfold u_lay
  split <;> rfl
theorem cl_ok : ∀ (t : Nat) (r : vw_C), classes[t]? = some r → (∀ w ∈ u_ws r.1 r.2.1 r.2.2, w ∈ tblG) ∧ (∀ a, a < r.2.2 → ∀ b, b < r.2.2 → a ≠ b → (r.2.1 a).2.1 ≠ (r.2.1 b).2.1) ∧ (∃ ty : Nat → FieldType, ∀ k, k < r.2.2 → parseFieldDescriptor (r.2.1 k).2.2.1 = some (ty k)) := by
  intro t r h
  match t, h with
  | 0, h => cases h; exact ⟨tg_lay inX0, nmX0, tyX0, tyX0_ok⟩
  | 1, h => cases h; exact ⟨tg_lay inX1, nmX1, tyX1, tyX1_ok⟩
  | 2, h => cases h; exact ⟨tg_lay inX2, nmX2, tyX2, tyX2_ok⟩
  | 3, h => cases h; exact ⟨tg_lay inX3, nmX3, tyX3, tyX3_ok⟩
  | 4, h => cases h; exact ⟨tg_lay inX4, nmX4, tyX4, tyX4_ok⟩
  | 5, h => cases h; exact ⟨tg_lay inX5, nmX5, tyX5, tyX5_ok⟩
  | 6, h => cases h; exact ⟨tg_lay inX6, nmX6, tyX6, tyX6_ok⟩
  | 7, h => cases h; exact ⟨tg_lay inX7, nmX7, tyX7, tyX7_ok⟩
  | 8, h => cases h; exact ⟨tg_lay inX8, nmX8, tyX8, tyX8_ok⟩
  | 9, h => cases h; exact ⟨tg_lay inX9, nmX9, tyX9, tyX9_ok⟩
  | 10, h => cases h; exact ⟨tg_lay inX10, nmX10, tyX10, tyX10_ok⟩
  | 11, h => cases h; exact ⟨tg_lay inX11, nmX11, tyX11, tyX11_ok⟩
  | 12, h => cases h; exact ⟨tg_lay inX12, nmX12, tyX12, tyX12_ok⟩
  | t + 13, h => simp [classes] at h
/-! ===== memory: ints and longs by cell and place; a world of cells laid one behind the other from B on ===== -/
abbrev Mem : Type := (Nat → Nat → Int32) × (Nat → Nat → Int64)
def upA (μ : Mem) (j : Nat) (f : Nat → Int32) : Mem := (va_up μ.1 j f, μ.2)
def upM (μ : Mem) (j : Nat) (f : Nat → Int64) : Mem := (μ.1, va_up μ.2 j f)
def upI (μ : Mem) (j k : Nat) (v : Int32) : Mem := upA μ j (upd (μ.1 j) k v)
def upL (μ : Mem) (j k : Nat) (v : Int64) : Mem := upM μ j (vp_updL (μ.2 j) k v)
def ix (i : Int32) (n : Nat) : Bool := decide (0 ≤ i) && decide (i.toNatClampNeg < n)
theorem ix_in {i : Int32} {n : Nat} (h : ix i n = true) : vp_in i n := by
  unfold ix at h
  rw [Bool.and_eq_true, decide_eq_true_eq, decide_eq_true_eq] at h
  rintro (q | q)
  · exact absurd h.1 (Int32.not_le.mpr q)
  · omega
abbrev GG : Type := (Nat → ClassId) × (Nat → Nat → Nat) × (Nat → ClassId)
abbrev WW : Type := GG × List (Nat × Nat) × Nat × (Nat → Prop) × (Nat → Prop) × (State → Prop) × Nat × (Nat → Nat → Bool)
abbrev wG (ω : WW) : GG := ω.1
abbrev wDS (ω : WW) : List (Nat × Nat) := ω.2.1
abbrev wB (ω : WW) : Nat := ω.2.2.1
abbrev wV (ω : WW) : Nat → Prop := ω.2.2.2.1
abbrev wA (ω : WW) : Nat → Prop := ω.2.2.2.2.1
abbrev wE (ω : WW) : State → Prop := ω.2.2.2.2.2.1
abbrev wZ (ω : WW) : Nat := ω.2.2.2.2.2.2.1
abbrev wN (ω : WW) : Nat → Nat → Bool := ω.2.2.2.2.2.2.2
def fv (B : Nat) (N : Nat → Nat → Bool) (μ : Mem) (j t k : Nat) : Value := if FT t k = 0 then .int (μ.1 j k) else if N j k = true then .null else .ref (B + (j + FT t k))
def av (B : Nat) (N : Nat → Nat → Bool) (μ : Mem) (j t i : Nat) : Value := if t = 103 then .long (μ.2 j i) else if t = 104 then (if N j i = true then .null else .ref (B + (j + 1 + 2 * i))) else if t = 105 then (if N j i = true then .null else .ref (B + (j + 1 + i))) else .int (μ.1 j i)
def cell_at (G : GG) (B : Nat) (N : Nat → Nat → Bool) (μ : Mem) (j t n : Nat) (H : Heap) : Prop :=
  (t < 100 → ∃ r : vw_C, classes[t]? = some r ∧ t_OB (B + j) (G.1 t) r.2.2 (G.2.1 t) H (fv B N μ j t)) ∧ (100 ≤ t → H[B + j]? = some (arrV (G.2.2 t) n (av B N μ j t)))
def Hd (ω : WW) (μ : Mem) (H : Heap) : Prop := ∀ j t n, wV ω j → (wDS ω)[j]? = some (t, n) → cell_at (wG ω) (wB ω) (wN ω) μ j t n H
def tyT (t : Nat) : FieldType := match t with
  | 100 => .int
  | 101 => .boolean
  | 102 => .byte
  | 103 => .long
  | 104 => .object "SummerHouses$State"
  | _ => .array .int
def KK (G : GG) (U : State) : Prop := (∀ (c : Nat) (q : vw_C), classes[c]? = some q → u_Kn U q.1 q.2.1 q.2.2 (G.1 c) (G.2.1 c)) ∧ ∀ t, 100 ≤ t → t ≤ 105 → ArrOfT U (G.2.2 t) (tyT t)
theorem KK.moved {G : GG} {u U : State} (hvm : u.vm.Alike U.vm) (h : KK G u) : KK G U := ⟨fun c q hq => u_Kn_moved hvm (h.1 c q hq), fun t h1 h2 => arrOfT_moved hvm (h.2 t h1 h2)⟩
def wok (ω : WW) : Prop := (∀ j t n, wV ω j → (wDS ω)[j]? = some (t, n) → wA ω (wB ω + j)) ∧ ∀ u U : State, wE ω u → (u.WarmedH U.vm ∨ U.vm = u.vm) → (∀ q : Nat, q < u.heap.size → ¬ wA ω q → U.heap[q]? = u.heap[q]?) → wE ω U
def Cx (ω : WW) (p : Program) (s : State) (m : MethodId) (args : Array Value) (c : Code) (cc : ByteArray) (nL : Nat) (own : String) : Prop := p.tables.exec = Jvm.exec ∧ c.code = cc ∧ c.maxLocals = nL ∧ s.vm.findClass own = some m.cls ∧ (∀ w ∈ tblG, w.before args s = true) ∧ KK (wG ω) s ∧ wE ω s ∧ wok ω
def FS (ω : WW) (s : State) (H : Heap) (locs : List Loc) : Prop := va_S (wA ω) s.heap H locs ∧ H.size = wZ ω
theorem cell_at.kept {G : GG} {B : Nat} {N : Nat → Nat → Bool} {μ : Mem} {j t n : Nat} {H H1 : Heap} (h : cell_at G B N μ j t n H) (e : H1[B + j]? = H[B + j]?) : cell_at G B N μ j t n H1 := by
  refine ⟨fun ht => ?_, fun ht => ?_⟩
  · obtain ⟨r, h1, h2⟩ := h.1 ht
    exact ⟨r, h1, h2.kept e⟩
  · rw [e]; exact h.2 ht
theorem cell_at.same {G : GG} {B : Nat} {N : Nat → Nat → Bool} {μ μ' : Mem} {j t n : Nat} {H : Heap} (h : cell_at G B N μ j t n H) (e1 : μ'.1 j = μ.1 j) (e2 : μ'.2 j = μ.2 j) : cell_at G B N μ' j t n H := by
  have ef : fv B N μ' j t = fv B N μ j t := by funext k; simp only [fv, e1]
  have ea : av B N μ' j t = av B N μ j t := by funext k; simp only [av, e1, e2]
  refine ⟨fun ht => ?_, fun ht => ?_⟩
  · rw [ef]; exact h.1 ht
  · rw [ea]; exact h.2 ht
theorem Hd.put {ω : WW} {μ μ' : Mem} {H H1 : Heap} {j t n : Nat} (h : Hd ω μ H) (hd : (wDS ω)[j]? = some (t, n)) (hμ : ∀ i, i ≠ j → μ'.1 i = μ.1 i ∧ μ'.2 i = μ.2 i) (hc : cell_at (wG ω) (wB ω) (wN ω) μ' j t n H1) (oq : ∀ q : Nat, q ≠ wB ω + j → H1[q]? = H[q]?) : Hd ω μ' H1 := by
  intro i t' n' hv' hd'
  by_cases e : i = j
  · subst e
    cases hd.symm.trans hd'
    exact hc
  · exact ((h i t' n' hv' hd').same (hμ i e).1 (hμ i e).2).kept (oq _ (by omega))
theorem Hd.kept {ω : WW} {μ : Mem} {H H1 : Heap} (h : Hd ω μ H) (oq : ∀ j t n, wV ω j → (wDS ω)[j]? = some (t, n) → H1[wB ω + j]? = H[wB ω + j]?) : Hd ω μ H1 := fun j t n hv hd => (h j t n hv hd).kept (oq j t n hv hd)
theorem FS.put {ω : WW} {s : State} {H H1 : Heap} {locs : List Loc} {a k : Nat} (h : FS ω s H locs) (z : H1.size = H.size) (oq : ∀ q : Nat, q ≠ a → H1[q]? = H[q]?) (ha : wA ω a) : FS ω s H1 (locs ++ [⟨a, k⟩]) := ⟨h.1.put z oq ha, z.trans h.2⟩
theorem FS.rf {ω : WW} {s : State} (h : s.heap.size = wZ ω) : FS ω s s.heap [] := ⟨va_S.rf, h⟩
theorem upI_ne {μ : Mem} {j k i : Nat} {v : Int32} (h : i ≠ j) : (upI μ j k v).1 i = μ.1 i ∧ (upI μ j k v).2 i = μ.2 i := ⟨by show va_up _ _ _ i = _; unfold va_up; rw [if_neg h], rfl⟩
theorem upL_ne {μ : Mem} {j k i : Nat} {v : Int64} (h : i ≠ j) : (upL μ j k v).1 i = μ.1 i ∧ (upL μ j k v).2 i = μ.2 i := ⟨rfl, by show va_up _ _ _ i = _; unfold va_up; rw [if_neg h]⟩
theorem upA_ne {μ : Mem} {j i : Nat} {f : Nat → Int32} (h : i ≠ j) : (upA μ j f).1 i = μ.1 i ∧ (upA μ j f).2 i = μ.2 i := ⟨by show va_up _ _ _ i = _; unfold va_up; rw [if_neg h], rfl⟩
theorem upM_ne {μ : Mem} {j i : Nat} {f : Nat → Int64} (h : i ≠ j) : (upM μ j f).1 i = μ.1 i ∧ (upM μ j f).2 i = μ.2 i := ⟨rfl, by show va_up _ _ _ i = _; unfold va_up; rw [if_neg h]⟩
theorem upA_eq {μ : Mem} {j : Nat} {f : Nat → Int32} : (upA μ j f).1 j = f := by show va_up _ _ _ j = _; unfold va_up; rw [if_pos rfl]
theorem upM_eq {μ : Mem} {j : Nat} {f : Nat → Int64} : (upM μ j f).2 j = f := by show va_up _ _ _ j = _; unfold va_up; rw [if_pos rfl]
section SH
variable {p : Program} {l : Launch} {e : Env} {R : Room} {s : State} {m : MethodId} {args : Array Value} {below : List Frame} {meth : Method} {c : Code} {H : Heap} {locs : List Loc} {cells slots : Nat} {Q : State → Prop}
variable {cc : ByteArray} {pc nL : Nat} {ls : Array Slot} {rest : List Value} {ω : WW} {μ : Mem} {own : String}
/-- a field read -/
theorem h_get (C : Cx ω p s m args c cc nL own) (hH : Hd ω μ H) {j t n index k : Nat} {r : vw_C} {ref name desc : String} {fin : Bool} (hv : wV ω j) (hd : (wDS ω)[j]? = some (t, n)) (ht : t < 100) (hr : classes[t]? = some r) (hk : k < r.2.2) (hT : r.2.1 k = (ref, name, desc, fin)) (hw : Cond.fieldLink own index ref name desc ∈ lw_tbl) (hdg : decode cc pc = .ok (.getfield index, 3))
    (kk : W p l e R s m args below meth c H locs cells slots Q (F0 m (pc + 3) ls (fv (wB ω) (wN ω) μ j t k :: rest))) : W p l e R s m args below meth c H locs cells slots Q (F0 m pc ls (.ref (wB ω + j) :: rest)) := by
  obtain ⟨hx, hb, -, hown, hts, hK, -, -⟩ := C
  obtain ⟨r', h1, cell, q1, q2, q3, q4⟩ := (hH j t n hv hd).1 ht
  cases h1.symm.trans hr
  obtain ⟨hS, hfc, kC, hkC, hkind⟩ := hK.1 t _ hr
  obtain ⟨cf, kf, fi, f, hi, hsl⟩ := hS k hk
  have hin := (cl_ok t r hr).1
  have hst := (u_facts hfc hkC (u_lays hts hin hk) hi).1
  rw [hT] at hi
  exact W.getf hx hb hown (hts _ (tg hw rfl)) hi hst q1 (by rw [q3]; exact fun h => by cases h) (v := fv (wB ω) (wN ω) μ j t k) (by rw [hsl]; exact q4 k hk) rfl rfl hdg kk
theorem h_geti (C : Cx ω p s m args c cc nL own) (hH : Hd ω μ H) {j t n index k : Nat} {r : vw_C} {ref name desc : String} {fin : Bool} (hv : wV ω j) (hd : (wDS ω)[j]? = some (t, n)) (ht : t < 100) (hr : classes[t]? = some r) (hk : k < r.2.2) (hT : r.2.1 k = (ref, name, desc, fin)) (hf : FT t k = 0) (hw : Cond.fieldLink own index ref name desc ∈ lw_tbl) (hdg : decode cc pc = .ok (.getfield index, 3))
    (kk : W p l e R s m args below meth c H locs cells slots Q (F0 m (pc + 3) ls (.int (μ.1 j k) :: rest))) : W p l e R s m args below meth c H locs cells slots Q (F0 m pc ls (.ref (wB ω + j) :: rest)) :=
  h_get C hH hv hd ht hr hk hT hw hdg (by rw [show fv (wB ω) (wN ω) μ j t k = .int (μ.1 j k) by simp [fv, hf]]; exact kk)
theorem h_getr (C : Cx ω p s m args c cc nL own) (hH : Hd ω μ H) {j t n index k i : Nat} {r : vw_C} {ref name desc : String} {fin : Bool} (hv : wV ω j) (hd : (wDS ω)[j]? = some (t, n)) (ht : t < 100) (hr : classes[t]? = some r) (hk : k < r.2.2) (hT : r.2.1 k = (ref, name, desc, fin)) (hf : FT t k ≠ 0) (hN : wN ω j k = false) (hi : j + FT t k = i) (hw : Cond.fieldLink own index ref name desc ∈ lw_tbl) (hdg : decode cc pc = .ok (.getfield index, 3))
    (kk : W p l e R s m args below meth c H locs cells slots Q (F0 m (pc + 3) ls (.ref (wB ω + i) :: rest))) : W p l e R s m args below meth c H locs cells slots Q (F0 m pc ls (.ref (wB ω + j) :: rest)) :=
  h_get C hH hv hd ht hr hk hT hw hdg (by rw [show fv (wB ω) (wN ω) μ j t k = .ref (wB ω + i) by simp [fv, hf, hi, hN]]; exact kk)
/-- an int field written -/
theorem h_puti (C : Cx ω p s m args c cc nL own) (hH : Hd ω μ H) (hS0 : FS ω s H locs) {j t n index k : Nat} {r : vw_C} {ref name desc : String} {ty : FieldType} {x : Int32} (hv : wV ω j) (hd : (wDS ω)[j]? = some (t, n)) (ht : t < 100) (hr : classes[t]? = some r) (hk : k < r.2.2) (hT : r.2.1 k = (ref, name, desc, false)) (hf : FT t k = 0) (hw : Cond.fieldLink own index ref name desc ∈ lw_tbl) (hty : parseFieldDescriptor desc = some ty) (hn : narrow ty (.int x) = .int x) (hfit : fits ty (.int x) = true) (hdg : decode cc pc = .ok (.putfield index, 3))
    (kk : ∀ (H1 : Heap) (locs1 : List Loc), Hd ω (upI μ j k x) H1 → FS ω s H1 locs1 → W p l e R s m args below meth c H1 locs1 cells slots Q (F0 m (pc + 3) ls rest)) : W p l e R s m args below meth c H locs cells slots Q (F0 m pc ls (.int x :: .ref (wB ω + j) :: rest)) := by
  obtain ⟨hx, hb, -, hown, hts, hK, -, hok⟩ := C
  obtain ⟨r', h1, cell, q1, q2, q3, q4⟩ := (hH j t n hv hd).1 ht
  cases h1.symm.trans hr
  obtain ⟨hS, hfc, kC, hkC, hkind⟩ := hK.1 t _ hr
  obtain ⟨cf, kf, fi, f, hi, hsl⟩ := hS k hk
  obtain ⟨hin, hnm, tys, htys⟩ := cl_ok t r hr
  have hap : ∀ x y, x < r.2.2 → y < r.2.2 → x ≠ y → ((wG ω).2.1 t) x ≠ ((wG ω).2.1 t) y := by
    intro x y hx hy hne
    obtain ⟨_, _, _, fa, hia, ea⟩ := hS x hx
    obtain ⟨_, _, _, fb, hib, eb⟩ := hS y hy
    rw [← ea, ← eb]
    refine u_apart (u_lays hts hin hx) (u_lays hts hin hy) hia hib ?_
    rw [(State.fieldFound?_type hia (htys x hx)).1, (State.fieldFound?_type hib (htys y hy)).1]
    exact hnm x hx y hy hne
  have hlay := hts _ (hin _ (u_in_lay hk))
  unfold u_lay at hlay
  rw [if_neg (by rw [hT]; simp)] at hlay
  have hst := (u_facts hfc hkC (u_lays hts hin hk) hi).1
  have h6 := u_store hfc hkC hkind hlay hi (by rw [hT]; exact hty) hn hfit
  have hi2 := hi
  rw [hT] at hi2
  refine W.putK hx hb (f := f) ⟨hown, hts _ (tg hw rfl), ⟨_, _, _, hi2⟩, hst⟩ (by rw [q2]; exact h6) q1 q3 (by rw [hsl]; exact k2_hasslot (q4 k hk)) rfl rfl hdg fun H' e1 e2 e3 => ?_
  rw [hsl] at e1 ⊢
  refine kk H' _ (hH.put hd (fun i hi => upI_ne hi) ⟨fun _ => ⟨r, hr, ?_⟩, fun h => absurd ht (Nat.not_lt.mpr h)⟩ e3) (hS0.put e2 e3 (hok.1 j t n hv hd))
  refine t_OB.to (V := updV (fv (wB ω) (wN ω) μ j t) k (.int x)) ⟨_, e1, q2, q3, t_set q4 hap hk _⟩ (fun i _ => ?_)
  unfold updV fv
  have hu : (upI μ j k x).1 j = upd (μ.1 j) k x := upA_eq
  rw [hu]
  by_cases e : i = k
  · subst e; simp [hf, upd]
  · simp [e, upd]
/-- arrays read -/
theorem h_arr (hH : Hd ω μ H) {j t n : Nat} (hv : wV ω j) (hd : (wDS ω)[j]? = some (t, n)) (ht : 100 ≤ t) : H[wB ω + j]? = some (arrV ((wG ω).2.2 t) n (av (wB ω) (wN ω) μ j t)) := (hH j t n hv hd).2 ht
theorem h_iald (C : Cx ω p s m args c cc nL own) (hH : Hd ω μ H) {j n : Nat} {i : Int32} (hv : wV ω j) (hd : (wDS ω)[j]? = some (100, n)) (hin : ix i n = true) (hdg : decode cc pc = .ok (.iaload, 1))
    (kk : W p l e R s m args below meth c H locs cells slots Q (F0 m (pc + 1) ls (.int (μ.1 j i.toNatClampNeg) :: rest))) : W p l e R s m args below meth c H locs cells slots Q (F0 m pc ls (.int i :: .ref (wB ω + j) :: rest)) := by
  have hlt : i.toNatClampNeg < n := Nat.not_le.mp fun q => ix_in hin (Or.inr q)
  exact W.iald (v := .int (μ.1 j i.toNatClampNeg)) C.1 C.2.1 (h_arr hH hv hd (by decide)) (C.2.2.2.2.2.1.2 100 (by decide) (by decide) n _) (fun q => by cases q) (by rw [arrV_size]; exact ix_in hin) (by rw [arrV_read _ _ hlt]; rfl) rfl rfl hdg kk
theorem h_bald (C : Cx ω p s m args c cc nL own) (hH : Hd ω μ H) {j n : Nat} {i : Int32} (hv : wV ω j) (hd : (wDS ω)[j]? = some (102, n)) (hin : ix i n = true) (hdg : decode cc pc = .ok (.baload, 1))
    (kk : W p l e R s m args below meth c H locs cells slots Q (F0 m (pc + 1) ls (.int (μ.1 j i.toNatClampNeg) :: rest))) : W p l e R s m args below meth c H locs cells slots Q (F0 m pc ls (.int i :: .ref (wB ω + j) :: rest)) := by
  have hlt : i.toNatClampNeg < n := Nat.not_le.mp fun q => ix_in hin (Or.inr q)
  exact W.bald (v := .int (μ.1 j i.toNatClampNeg)) C.1 C.2.1 (h_arr hH hv hd (by decide)) (C.2.2.2.2.2.1.2 102 (by decide) (by decide) n _) (fun q => by cases q) (by rw [arrV_size]; exact ix_in hin) (by rw [arrV_read _ _ hlt]; rfl) rfl rfl hdg kk
theorem h_zald (C : Cx ω p s m args c cc nL own) (hH : Hd ω μ H) {j n : Nat} {i : Int32} (hv : wV ω j) (hd : (wDS ω)[j]? = some (101, n)) (hin : ix i n = true) (hdg : decode cc pc = .ok (.baload, 1))
    (kk : W p l e R s m args below meth c H locs cells slots Q (F0 m (pc + 1) ls (.int (μ.1 j i.toNatClampNeg) :: rest))) : W p l e R s m args below meth c H locs cells slots Q (F0 m pc ls (.int i :: .ref (wB ω + j) :: rest)) := by
  have hlt : i.toNatClampNeg < n := Nat.not_le.mp fun q => ix_in hin (Or.inr q)
  exact W.zald (v := .int (μ.1 j i.toNatClampNeg)) C.1 C.2.1 (h_arr hH hv hd (by decide)) (C.2.2.2.2.2.1.2 101 (by decide) (by decide) n _) (fun q => by cases q) (by rw [arrV_size]; exact ix_in hin) (by rw [arrV_read _ _ hlt]; rfl) rfl rfl hdg kk
theorem h_lald (C : Cx ω p s m args c cc nL own) (hH : Hd ω μ H) {j n : Nat} {i : Int32} (hv : wV ω j) (hd : (wDS ω)[j]? = some (103, n)) (hin : ix i n = true) (hdg : decode cc pc = .ok (.laload, 1))
    (kk : W p l e R s m args below meth c H locs cells slots Q (F0 m (pc + 1) ls (.long (μ.2 j i.toNatClampNeg) :: rest))) : W p l e R s m args below meth c H locs cells slots Q (F0 m pc ls (.int i :: .ref (wB ω + j) :: rest)) := by
  have hlt : i.toNatClampNeg < n := Nat.not_le.mp fun q => ix_in hin (Or.inr q)
  exact W.lald (v := .long (μ.2 j i.toNatClampNeg)) C.1 C.2.1 (h_arr hH hv hd (by decide)) (C.2.2.2.2.2.1.2 103 (by decide) (by decide) n _) (fun q => by cases q) (by rw [arrV_size]; exact ix_in hin) (by rw [arrV_read _ _ hlt]; rfl) rfl rfl hdg kk
theorem h_aald4 (C : Cx ω p s m args c cc nL own) (hH : Hd ω μ H) {j n : Nat} {i : Int32} (hv : wV ω j) (hd : (wDS ω)[j]? = some (104, n)) (hN : ∀ k, wN ω j k = false) (hin : ix i n = true) (hdg : decode cc pc = .ok (.aaload, 1))
    (kk : W p l e R s m args below meth c H locs cells slots Q (F0 m (pc + 1) ls (.ref (wB ω + (j + 1 + 2 * i.toNatClampNeg)) :: rest))) : W p l e R s m args below meth c H locs cells slots Q (F0 m pc ls (.int i :: .ref (wB ω + j) :: rest)) := by
  have hlt : i.toNatClampNeg < n := Nat.not_le.mp fun q => ix_in hin (Or.inr q)
  exact W.aald (v := .ref (wB ω + (j + 1 + 2 * i.toNatClampNeg))) C.1 C.2.1 (h_arr hH hv hd (by decide)) (C.2.2.2.2.2.1.2 104 (by decide) (by decide) n _) rfl (fun q => by cases q) (by rw [arrV_size]; exact ix_in hin) (by rw [arrV_read _ _ hlt]; simp [av, hN]) rfl rfl hdg kk
theorem h_aald5 (C : Cx ω p s m args c cc nL own) (hH : Hd ω μ H) {j n : Nat} {i : Int32} (hv : wV ω j) (hd : (wDS ω)[j]? = some (105, n)) (hN : ∀ k, wN ω j k = false) (hin : ix i n = true) (hdg : decode cc pc = .ok (.aaload, 1))
    (kk : W p l e R s m args below meth c H locs cells slots Q (F0 m (pc + 1) ls (.ref (wB ω + (j + 1 + i.toNatClampNeg)) :: rest))) : W p l e R s m args below meth c H locs cells slots Q (F0 m pc ls (.int i :: .ref (wB ω + j) :: rest)) := by
  have hlt : i.toNatClampNeg < n := Nat.not_le.mp fun q => ix_in hin (Or.inr q)
  exact W.aald (v := .ref (wB ω + (j + 1 + i.toNatClampNeg))) C.1 C.2.1 (h_arr hH hv hd (by decide)) (C.2.2.2.2.2.1.2 105 (by decide) (by decide) n _) rfl (fun q => by cases q) (by rw [arrV_size]; exact ix_in hin) (by rw [arrV_read _ _ hlt]; simp [av, hN]) rfl rfl hdg kk
theorem h_alen (C : Cx ω p s m args c cc nL own) (hH : Hd ω μ H) {j t n : Nat} {v : Int32} (hv : wV ω j) (hd : (wDS ω)[j]? = some (t, n)) (h1 : 100 ≤ t) (h2 : t ≤ 105) (hn : Int32.ofNat n = v) (hdg : decode cc pc = .ok (.arraylength, 1))
    (kk : W p l e R s m args below meth c H locs cells slots Q (F0 m (pc + 1) ls (.int v :: rest))) : W p l e R s m args below meth c H locs cells slots Q (F0 m pc ls (.ref (wB ω + j) :: rest)) := by
  subst hn
  exact W.alen (n := Int32.ofNat n) C.1 C.2.1 (h_arr hH hv hd h1) (C.2.2.2.2.2.1.2 t h1 h2 n _) (by rw [arrV_size] <;> rfl) rfl rfl hdg kk
/-- arrays written -/
theorem av_i {B : Nat} {N : Nat → Nat → Bool} {μ : Mem} {j t : Nat} (h : t = 100 ∨ t = 101 ∨ t = 102) (i : Nat) : av B N μ j t i = .int (μ.1 j i) := by
  rcases h with rfl | rfl | rfl <;> rfl
theorem Hd.ast {H1 : Heap} (hH : Hd ω μ H) {j t n k : Nat} {x : Int32} (ht : t = 100 ∨ t = 101 ∨ t = 102) (hd : (wDS ω)[j]? = some (t, n)) (e1 : H1[wB ω + j]? = some ((arrV ((wG ω).2.2 t) n (av (wB ω) (wN ω) μ j t)).setSlot k (.int x))) (oq : ∀ q : Nat, q ≠ wB ω + j → H1[q]? = H[q]?) : Hd ω (upI μ j k x) H1 := by
  have ht2 : 100 ≤ t := by omega
  refine hH.put hd (fun i hi => upI_ne hi) ⟨fun h => absurd ht2 (Nat.not_le.mpr h), fun _ => ?_⟩ oq
  rw [e1, arrV_store]
  congr 2
  funext i
  have hu : (upI μ j k x).1 j = upd (μ.1 j) k x := upA_eq
  rw [av_i ht, hu]
  unfold updV upd
  by_cases e : i = k
  · simp [e]
  · simp [e, av_i ht]
theorem h_iast (C : Cx ω p s m args c cc nL own) (hH : Hd ω μ H) (hS : FS ω s H locs) {j n : Nat} {i x : Int32} (hv : wV ω j) (hd : (wDS ω)[j]? = some (100, n)) (hin : ix i n = true) (hdg : decode cc pc = .ok (.iastore, 1))
    (kk : ∀ (H1 : Heap) (locs1 : List Loc), Hd ω (upI μ j i.toNatClampNeg x) H1 → FS ω s H1 locs1 → W p l e R s m args below meth c H1 locs1 cells slots Q (F0 m (pc + 1) ls rest)) : W p l e R s m args below meth c H locs cells slots Q (F0 m pc ls (.int x :: .int i :: .ref (wB ω + j) :: rest)) :=
  W.iast C.1 C.2.1 (h_arr hH hv hd (by decide)) (C.2.2.2.2.2.1.2 100 (by decide) (by decide) n _) (fun q => by cases q) (by rw [arrV_size]; exact ix_in hin) rfl rfl hdg fun H1 e z oq => kk H1 _ (hH.ast (Or.inl rfl) hd e oq) (hS.put z oq (C.2.2.2.2.2.2.2.1 j 100 n hv hd))
theorem h_bast (C : Cx ω p s m args c cc nL own) (hH : Hd ω μ H) (hS : FS ω s H locs) {j n : Nat} {i x : Int32} (hv : wV ω j) (hd : (wDS ω)[j]? = some (102, n)) (hin : ix i n = true) (hdg : decode cc pc = .ok (.bastore, 1))
    (kk : ∀ (H1 : Heap) (locs1 : List Loc), Hd ω (upI μ j i.toNatClampNeg x.toInt8.toInt32) H1 → FS ω s H1 locs1 → W p l e R s m args below meth c H1 locs1 cells slots Q (F0 m (pc + 1) ls rest)) : W p l e R s m args below meth c H locs cells slots Q (F0 m pc ls (.int x :: .int i :: .ref (wB ω + j) :: rest)) :=
  W.bast C.1 C.2.1 (h_arr hH hv hd (by decide)) (C.2.2.2.2.2.1.2 102 (by decide) (by decide) n _) (fun q => by cases q) (by rw [arrV_size]; exact ix_in hin) rfl rfl hdg fun H1 e z oq => kk H1 _ (hH.ast (Or.inr (Or.inr rfl)) hd e oq) (hS.put z oq (C.2.2.2.2.2.2.2.1 j 102 n hv hd))
theorem h_zast (C : Cx ω p s m args c cc nL own) (hH : Hd ω μ H) (hS : FS ω s H locs) {j n : Nat} {i x y : Int32} (hv : wV ω j) (hd : (wDS ω)[j]? = some (101, n)) (hin : ix i n = true) (hy : narrow .boolean (.int x) = .int y) (hdg : decode cc pc = .ok (.bastore, 1))
    (kk : ∀ (H1 : Heap) (locs1 : List Loc), Hd ω (upI μ j i.toNatClampNeg y) H1 → FS ω s H1 locs1 → W p l e R s m args below meth c H1 locs1 cells slots Q (F0 m (pc + 1) ls rest)) : W p l e R s m args below meth c H locs cells slots Q (F0 m pc ls (.int x :: .int i :: .ref (wB ω + j) :: rest)) :=
  W.zast C.1 C.2.1 (h_arr hH hv hd (by decide)) (C.2.2.2.2.2.1.2 101 (by decide) (by decide) n _) (fun q => by cases q) (by rw [arrV_size]; exact ix_in hin) rfl rfl hdg fun H1 e z oq => kk H1 _ (hH.ast (Or.inr (Or.inl rfl)) hd (by rw [← hy]; exact e) oq) (hS.put z oq (C.2.2.2.2.2.2.2.1 j 101 n hv hd))
theorem h_last (C : Cx ω p s m args c cc nL own) (hH : Hd ω μ H) (hS : FS ω s H locs) {j n : Nat} {i : Int32} {x : Int64} (hv : wV ω j) (hd : (wDS ω)[j]? = some (103, n)) (hin : ix i n = true) (hdg : decode cc pc = .ok (.lastore, 1))
    (kk : ∀ (H1 : Heap) (locs1 : List Loc), Hd ω (upL μ j i.toNatClampNeg x) H1 → FS ω s H1 locs1 → W p l e R s m args below meth c H1 locs1 cells slots Q (F0 m (pc + 1) ls rest)) : W p l e R s m args below meth c H locs cells slots Q (F0 m pc ls (.long x :: .int i :: .ref (wB ω + j) :: rest)) := by
  refine W.last C.1 C.2.1 (h_arr hH hv hd (by decide)) (C.2.2.2.2.2.1.2 103 (by decide) (by decide) n _) (fun q => by cases q) (by rw [arrV_size]; exact ix_in hin) rfl rfl hdg fun H1 e z oq => kk H1 _ (hH.put hd (fun i hi => upL_ne hi) ⟨fun h => absurd h (by decide), fun _ => ?_⟩ oq) (hS.put z oq (C.2.2.2.2.2.2.2.1 j 103 n hv hd))
  rw [e, arrV_store]
  congr 2
  funext k
  have hu : (upL μ j i.toNatClampNeg x).2 j = vp_updL (μ.2 j) i.toNatClampNeg x := upM_eq
  show updV _ _ _ k = .long ((upL μ j i.toNatClampNeg x).2 j k)
  rw [hu]
  unfold updV vp_updL
  by_cases e : k = i.toNatClampNeg
  · simp [e]
  · simp [e, av]
/-- System.arraycopy of ints, from one cell to another -/
theorem h_copyi (C : Cx ω p s m args c cc nL own) (hl : ls.size = nL) (hH : Hd ω μ H) (hS : FS ω s H locs) {index j0 j1 n0 n1 : Nat} (hv0 : wV ω j0) (hd0 : (wDS ω)[j0]? = some (100, n0)) (hv1 : wV ω j1) (hd1 : (wDS ω)[j1]? = some (100, n1)) (hw : Cond.methodLink own index arraycopyName ∈ lw_tbl)
    {sp dp n : Int32} (hcp : (0 ≤ sp ∧ 0 ≤ dp ∧ 0 ≤ n) ∧ sp.toNatClampNeg + n.toNatClampNeg ≤ n0 ∧ dp.toNatClampNeg + n.toNatClampNeg ≤ n1) (hframes : 1 ≤ R.frames) (hlocals : (rest.map fun v => v.category).sum + (nativeFrameWords "java/lang/System" "arraycopy" 5 + 11) ≤ R.locals) (hdg : decode cc pc = .ok (.invokestatic index, 3))
    (kk : ∀ (H1 : Heap) (locs1 : List Loc), Hd ω (upA μ j1 (va_cpy (μ.1 j0) (μ.1 j1) sp.toNatClampNeg dp.toNatClampNeg n.toNatClampNeg)) H1 → FS ω s H1 locs1 → W p l e R s m args below meth c H1 locs1 cells slots Q (F0 m (pc + 3) ls rest)) : W p l e R s m args below meth c H locs cells slots Q (F0 m pc ls (.int n :: .int dp :: .ref (wB ω + j1) :: .int sp :: .ref (wB ω + j0) :: rest)) := by
  obtain ⟨hx, hb, hml, hown, hts, hK, -, hok⟩ := C
  obtain ⟨⟨h1, h2, h3⟩, h4, h5⟩ := hcp
  have nn : ∀ z : Int32, 0 ≤ z → z.toInt = (z.toNatClampNeg : Int) := by
    intro z hz
    have hz0 : (0 : Int) ≤ z.toInt := by simpa using Int32.le_iff_toInt_le.mp hz
    show z.toInt = ((z.toInt.toNat : Nat) : Int)
    omega
  have h1' := Int32.not_lt.mpr h1
  have h2' := Int32.not_lt.mpr h2
  have h3' := Int32.not_lt.mpr h3
  intro T hT X
  have hc0 : H[wB ω + j0]? = some (arrV ((wG ω).2.2 100) n0 (fun i => .int (μ.1 j0 i))) := h_arr hH hv0 hd0 (by decide)
  have hc1 : H[wB ω + j1]? = some (arrV ((wG ω).2.2 100) n1 (fun i => .int (μ.1 j1 i))) := h_arr hH hv1 hd1 (by decide)
  obtain ⟨-, k0, hk0, cm0, hkk0⟩ := hK.2 100 (by decide) (by decide) n0 (fun i => .int (μ.1 j0 i))
  obtain ⟨-, k1, hk1, cm1, hkk1⟩ := hK.2 100 (by decide) (by decide) n1 (fun i => .int (μ.1 j1 i))
  obtain ⟨vm', X', step⟩ := X.arraycopy hx hown (hts _ (tg hw rfl)) (hts _ (tg wd_709 rfl)) (hts _ (tg wd_708 rfl)) (hts _ (tg wd_117 rfl)) (src := wB ω + j0) (dst := wB ω + j1) (cs := arrV ((wG ω).2.2 100) n0 (fun i => .int (μ.1 j0 i))) (cd := arrV ((wG ω).2.2 100) n1 (fun i => .int (μ.1 j1 i))) (srcPos := sp) (destPos := dp) (n := n) (by rw [hT]; exact hc0) (by rw [hT]; exact hc1)
    (fun _ h => by cases h) (fun _ h => by cases h) (fun h => by cases h) (fun h => by cases h) hk0 hk1 hkk0 hkk1 (by simp [tyT, refKind]) h1' h2' h3'
    (by rw [nn sp h1, nn n h3, arrV_size]; omega)
    (by rw [nn dp h2, nn n h3, arrV_size]; omega)
    (fun vm₁ _ i hi => by
      have e : (arrV ((wG ω).2.2 100) n0 (fun i => .int (μ.1 j0 i))).slots.getD (sp.toNatClampNeg + i) .null = .int (μ.1 j0 (sp.toNatClampNeg + i)) := by
        rw [Array.getD_eq_getD_getElem?, arrV_read _ _ (by omega)]
        rfl
      refine ⟨?_, ?_⟩
      · rw [e]; rfl
      · rw [e]; exact trivial)
    (g := F0 m pc ls (.int n :: .int dp :: .ref (wB ω + j1) :: .int sp :: .ref (wB ω + j0) :: rest)) rfl (by rw [hml]; exact hl) (rest := rest) rfl (by rw [hb]; exact hdg) hframes (by show 2 * 0 + _ + _ ≤ _; omega)
  have e1 : copied (arrV ((wG ω).2.2 100) n0 (fun i => .int (μ.1 j0 i))) (arrV ((wG ω).2.2 100) n1 (fun i => .int (μ.1 j1 i))) sp dp n = arrV ((wG ω).2.2 100) n1 (fun i => .int (va_cpy (μ.1 j0) (μ.1 j1) sp.toNatClampNeg dp.toNatClampNeg n.toNatClampNeg i)) := va_copied (fun z => .int z) _ _ (μ.1 j0) (μ.1 j1) h4
  rw [e1] at X' step
  have hl : wB ω + j1 < H.size := (Array.getElem?_eq_some_iff.mp hc1).1
  have hheap : ((T.setVm vm').setCell (wB ω + j1) (arrV ((wG ω).2.2 100) n1 (fun i => .int (va_cpy (μ.1 j0) (μ.1 j1) sp.toNatClampNeg dp.toNatClampNeg n.toNatClampNeg i)))).heap = H.setIfInBounds (wB ω + j1) (arrV ((wG ω).2.2 100) n1 (fun i => .int (va_cpy (μ.1 j0) (μ.1 j1) sp.toNatClampNeg dp.toNatClampNeg n.toNatClampNeg i))) := by rw [← hT]; rfl
  have oq : ∀ q : Nat, q ≠ wB ω + j1 → (H.setIfInBounds (wB ω + j1) (arrV ((wG ω).2.2 100) n1 (fun i => .int (va_cpy (μ.1 j0) (μ.1 j1) sp.toNatClampNeg dp.toNatClampNeg n.toNatClampNeg i))))[q]? = H[q]? := fun q hq => by simp [Array.getElem?_setIfInBounds, Ne.symm hq]
  obtain ⟨t, a1, b1⟩ := kk _ _ (hH.put hd1 (fun i hi => upA_ne hi) ⟨fun h => absurd h (by decide), fun _ => by
      rw [Array.getElem?_setIfInBounds, if_pos rfl, if_pos hl]
      congr 2
      funext i
      show _ = Value.int ((upA μ j1 _).1 j1 i)
      rw [upA_eq]⟩ oq) ⟨⟨by simp; exact hS.1.1, fun q g1 g2 => by
      rw [oq q (fun e => g2 (by rw [e]; exact hok.1 j1 100 n1 hv1 hd1))]
      exact hS.1.2.1 q g1 g2, fun q hq => by
      rcases List.mem_append.mp hq with h | h
      · exact hS.1.2.2 q h
      · obtain ⟨z, -, hz⟩ := List.mem_map.mp h
        rw [← hz]
        exact hok.1 j1 100 n1 hv1 hd1⟩, by simp; exact hS.2⟩ _ hheap X'
  exact ⟨t, step t a1, b1⟩
/-- and of longs -/
theorem h_copyl (C : Cx ω p s m args c cc nL own) (hl : ls.size = nL) (hH : Hd ω μ H) (hS : FS ω s H locs) {index j0 j1 n0 n1 : Nat} (hv0 : wV ω j0) (hd0 : (wDS ω)[j0]? = some (103, n0)) (hv1 : wV ω j1) (hd1 : (wDS ω)[j1]? = some (103, n1)) (hw : Cond.methodLink own index arraycopyName ∈ lw_tbl)
    {sp dp n : Int32} (hcp : (0 ≤ sp ∧ 0 ≤ dp ∧ 0 ≤ n) ∧ sp.toNatClampNeg + n.toNatClampNeg ≤ n0 ∧ dp.toNatClampNeg + n.toNatClampNeg ≤ n1) (hframes : 1 ≤ R.frames) (hlocals : (rest.map fun v => v.category).sum + (nativeFrameWords "java/lang/System" "arraycopy" 5 + 11) ≤ R.locals) (hdg : decode cc pc = .ok (.invokestatic index, 3))
    (kk : ∀ (H1 : Heap) (locs1 : List Loc), Hd ω (upM μ j1 (va_cpy (μ.2 j0) (μ.2 j1) sp.toNatClampNeg dp.toNatClampNeg n.toNatClampNeg)) H1 → FS ω s H1 locs1 → W p l e R s m args below meth c H1 locs1 cells slots Q (F0 m (pc + 3) ls rest)) : W p l e R s m args below meth c H locs cells slots Q (F0 m pc ls (.int n :: .int dp :: .ref (wB ω + j1) :: .int sp :: .ref (wB ω + j0) :: rest)) := by
  obtain ⟨hx, hb, hml, hown, hts, hK, -, hok⟩ := C
  obtain ⟨⟨h1, h2, h3⟩, h4, h5⟩ := hcp
  have nn : ∀ z : Int32, 0 ≤ z → z.toInt = (z.toNatClampNeg : Int) := by
    intro z hz
    have hz0 : (0 : Int) ≤ z.toInt := by simpa using Int32.le_iff_toInt_le.mp hz
    show z.toInt = ((z.toInt.toNat : Nat) : Int)
    omega
  have h1' := Int32.not_lt.mpr h1
  have h2' := Int32.not_lt.mpr h2
  have h3' := Int32.not_lt.mpr h3
  intro T hT X
  have hc0 : H[wB ω + j0]? = some (arrV ((wG ω).2.2 103) n0 (fun i => .long (μ.2 j0 i))) := h_arr hH hv0 hd0 (by decide)
  have hc1 : H[wB ω + j1]? = some (arrV ((wG ω).2.2 103) n1 (fun i => .long (μ.2 j1 i))) := h_arr hH hv1 hd1 (by decide)
  obtain ⟨-, k0, hk0, cm0, hkk0⟩ := hK.2 103 (by decide) (by decide) n0 (fun i => .long (μ.2 j0 i))
  obtain ⟨-, k1, hk1, cm1, hkk1⟩ := hK.2 103 (by decide) (by decide) n1 (fun i => .long (μ.2 j1 i))
  obtain ⟨vm', X', step⟩ := X.arraycopy hx hown (hts _ (tg hw rfl)) (hts _ (tg wd_709 rfl)) (hts _ (tg wd_708 rfl)) (hts _ (tg wd_117 rfl)) (src := wB ω + j0) (dst := wB ω + j1) (cs := arrV ((wG ω).2.2 103) n0 (fun i => .long (μ.2 j0 i))) (cd := arrV ((wG ω).2.2 103) n1 (fun i => .long (μ.2 j1 i))) (srcPos := sp) (destPos := dp) (n := n) (by rw [hT]; exact hc0) (by rw [hT]; exact hc1)
    (fun _ h => by cases h) (fun _ h => by cases h) (fun h => by cases h) (fun h => by cases h) hk0 hk1 hkk0 hkk1 (by simp [tyT, refKind]) h1' h2' h3'
    (by rw [nn sp h1, nn n h3, arrV_size]; omega)
    (by rw [nn dp h2, nn n h3, arrV_size]; omega)
    (fun vm₁ _ i hi => by
      have e : (arrV ((wG ω).2.2 103) n0 (fun i => .long (μ.2 j0 i))).slots.getD (sp.toNatClampNeg + i) .null = .long (μ.2 j0 (sp.toNatClampNeg + i)) := by
        rw [Array.getD_eq_getD_getElem?, arrV_read _ _ (by omega)]
        rfl
      refine ⟨?_, ?_⟩
      · rw [e]; rfl
      · rw [e]; exact trivial)
    (g := F0 m pc ls (.int n :: .int dp :: .ref (wB ω + j1) :: .int sp :: .ref (wB ω + j0) :: rest)) rfl (by rw [hml]; exact hl) (rest := rest) rfl (by rw [hb]; exact hdg) hframes (by show 2 * 0 + _ + _ ≤ _; omega)
  have e1 : copied (arrV ((wG ω).2.2 103) n0 (fun i => .long (μ.2 j0 i))) (arrV ((wG ω).2.2 103) n1 (fun i => .long (μ.2 j1 i))) sp dp n = arrV ((wG ω).2.2 103) n1 (fun i => .long (va_cpy (μ.2 j0) (μ.2 j1) sp.toNatClampNeg dp.toNatClampNeg n.toNatClampNeg i)) := va_copied (fun z => .long z) _ _ (μ.2 j0) (μ.2 j1) h4
  rw [e1] at X' step
  have hl : wB ω + j1 < H.size := (Array.getElem?_eq_some_iff.mp hc1).1
  have hheap : ((T.setVm vm').setCell (wB ω + j1) (arrV ((wG ω).2.2 103) n1 (fun i => .long (va_cpy (μ.2 j0) (μ.2 j1) sp.toNatClampNeg dp.toNatClampNeg n.toNatClampNeg i)))).heap = H.setIfInBounds (wB ω + j1) (arrV ((wG ω).2.2 103) n1 (fun i => .long (va_cpy (μ.2 j0) (μ.2 j1) sp.toNatClampNeg dp.toNatClampNeg n.toNatClampNeg i))) := by rw [← hT]; rfl
  have oq : ∀ q : Nat, q ≠ wB ω + j1 → (H.setIfInBounds (wB ω + j1) (arrV ((wG ω).2.2 103) n1 (fun i => .long (va_cpy (μ.2 j0) (μ.2 j1) sp.toNatClampNeg dp.toNatClampNeg n.toNatClampNeg i))))[q]? = H[q]? := fun q hq => by simp [Array.getElem?_setIfInBounds, Ne.symm hq]
  obtain ⟨t, a1, b1⟩ := kk _ _ (hH.put hd1 (fun i hi => upM_ne hi) ⟨fun h => absurd h (by decide), fun _ => by
      rw [Array.getElem?_setIfInBounds, if_pos rfl, if_pos hl]
      congr 2
      funext i
      show _ = Value.long ((upM μ j1 _).2 j1 i)
      rw [upM_eq]⟩ oq) ⟨⟨by simp; exact hS.1.1, fun q g1 g2 => by
      rw [oq q (fun e => g2 (by rw [e]; exact hok.1 j1 103 n1 hv1 hd1))]
      exact hS.1.2.1 q g1 g2, fun q hq => by
      rcases List.mem_append.mp hq with h | h
      · exact hS.1.2.2 q h
      · obtain ⟨z, -, hz⟩ := List.mem_map.mp h
        rw [← hz]
        exact hok.1 j1 103 n1 hv1 hd1⟩, by simp; exact hS.2⟩ _ hheap X'
  exact ⟨t, step t a1, b1⟩
/-! ===== contracts ===== -/
def wy (y : MethodName) (cc : ByteArray) (n : Nat) (ret : Option FieldType) : List Cond := Cond.code y cc n ret :: tblG
def rmd (d : Nat) : Room := { frames := d, cells := 0, slots := 0, locals := 64 * d }
def PP (ω : WW) (μ : Mem) (as : List Value) : Array Value → State → Prop := va_Pc as (fun U => Hd ω μ U.heap ∧ KK (wG ω) U ∧ wE ω U ∧ wok ω ∧ U.heap.size = wZ ω)
def QR (ω : WW) (v : Option Value) (μ' : Mem) : Array Value → State → Outcome → State → Prop := fun _ st oc t => oc = .returned v ∧ Hd ω μ' t.heap ∧ va_F (wA ω) st t ∧ t.heap.size = wZ ω
def Con (l : Launch) (y : MethodName) (cc : ByteArray) (n : Nat) (ret : Option FieldType) (d : Nat) (ω : WW) (as : List Value) (μ : Mem) (v : Option Value) (μ' : Mem) : Prop := Met l y (wy y cc n ret) (rmd d) (PP ω μ as) (QR ω v μ') 0 0 (wA ω)
/-- the walk of a method's body gives its contract -/
theorem con_of {y : MethodName} {n d : Nat} {ret : Option FieldType} {as : List Value} {v : Option Value} {μ' : Mem} (hy : plainName y.cls = true) (hn : (lg_sl as).length ≤ n)
    (body : ∀ (p : Program) (e : Env) (s : State) (m : MethodId) (args : Array Value) (below : List Frame) (meth : Method) (c : Code) (ls : Array Slot), Cx ω p s m args c cc n y.cls → meth.sig.returnType = ret → meth.locks = false → lv_has ls n (lv_args 0 as) → Hd ω μ s.heap → FS ω s s.heap [] →
      W p l e (rmd d) s m args below meth c s.heap [] 0 0 (MQ below (QR ω v μ') args s 0 0 (wA ω)) (F0 m 0 ls [])) : Con l y cc n ret d ω as μ v μ' := by
  refine Met.ofW (cc := cc) (maxL := n) (ret := ret) hy rfl ?_
  intro p e s m args below meth c s₁ B hml hv
  obtain ⟨rfl, hH, hK, hE, hok, hz⟩ := hv
  have hts := atoms_spec (ws := wy y cc n ret) B.pre
  have hl := lv_entry as (n := n) hn
  rw [lg_entry_eq]
  generalize (lg_sl as ++ List.replicate (n - (lg_sl as).length) Slot.unset).toArray = ls at hl ⊢
  exact body p e s m as.toArray below meth c ls ⟨B.exec, B.bytes, hml, findClass_of_methodNamed B.named, fun w hw => hts w (List.mem_cons_of_mem _ hw), hK, hE, hok⟩ B.returns B.notSynchronized hl hH (FS.rf hz)
/-- returns -/
theorem h_iret {v : Option Value} {μ' : Mem} {x : Int32} {ty : FieldType} (C : Cx ω p s m args c cc nL own) (hr : meth.sig.returnType = some ty) (hlocks : meth.locks = false) (hH : Hd ω μ H) (hS : FS ω s H locs) (hn : narrow ty (.int x) = .int x) (h : (some (.int x), μ) = (v, μ')) (hdg : decode cc pc = .ok (.ireturn, 1)) :
    W p l e R s m args below meth c H locs cells slots (MQ below (QR ω v μ') args s cells slots (wA ω)) (F0 m pc ls [.int x]) := by
  cases h
  exact W.zret C.1 C.2.1 hr hn (fun t ht hW => ⟨rfl, by rw [ht]; exact hH, hS.1.F ht, by rw [ht]; exact hS.2⟩) hS.1.2.2 hdg hlocks
theorem h_lret {v : Option Value} {μ' : Mem} {x : Int64} (C : Cx ω p s m args c cc nL own) (hr : meth.sig.returnType = some .long) (hlocks : meth.locks = false) (hH : Hd ω μ H) (hS : FS ω s H locs) (h : (some (.long x), μ) = (v, μ')) (hdg : decode cc pc = .ok (.lreturn, 1)) :
    W p l e R s m args below meth c H locs cells slots (MQ below (QR ω v μ') args s cells slots (wA ω)) (F0 m pc ls [.long x]) := by
  cases h
  exact W.lret C.1 C.2.1 hr (fun t ht hW => ⟨rfl, by rw [ht]; exact hH, hS.1.F ht, by rw [ht]; exact hS.2⟩) hS.1.2.2 hdg hlocks
theorem h_vret {v : Option Value} {μ' : Mem} (C : Cx ω p s m args c cc nL own) (hr : meth.sig.returnType = none) (hlocks : meth.locks = false) (hH : Hd ω μ H) (hS : FS ω s H locs) (h : (none, μ) = (v, μ')) (hdg : decode cc pc = .ok (.return_, 1)) :
    W p l e R s m args below meth c H locs cells slots (MQ below (QR ω v μ') args s cells slots (wA ω)) (F0 m pc ls []) := by
  cases h
  exact W.vret C.1 C.2.1 hr (fun t ht hW => ⟨rfl, by rw [ht]; exact hH, hS.1.F ht, by rw [ht]; exact hS.2⟩) hS.1.2.2 hdg hlocks
/-- what is behind a call -/
theorem h_after {v : Option Value} {μ1 : Mem} {a : Array Value} {mc ms : Nat} {st0 : List Value} (C : Cx ω p s m args c cc nL own) (hS : FS ω s H locs) (hr : va_Run p l e R s m args below meth c H locs cells slots 0 0 (F0 m pc ls st0) rest (QR ω v μ1 a) (wA ω))
    (kk : ∀ (H1 : Heap) (locs1 : List Loc), Hd ω μ1 H1 → FS ω s H1 locs1 → W p l e R s m args below meth c H1 locs1 cells slots Q (F0 m (pc + 3) ls (v.toList ++ rest))) : W p l e R s m args below meth c H locs cells slots Q (F0 m pc ls st0) := by
  intro T hT X
  obtain ⟨v', st₀, t, T', L, h0, X', hL, e1, e2, ⟨hv, hH1, ⟨hz, hk⟩, hsz⟩, st⟩ := hr T hT X
  cases hv
  rw [h0] at hz hk
  obtain ⟨t2, a1, b1⟩ := kk T'.heap (locs ++ L) (by rw [e1]; exact hH1) ⟨⟨Nat.le_trans hS.1.1 (by rw [e1]; exact hz), fun q h1 h2 => by rw [e1, hk q (Nat.lt_of_lt_of_le h1 hS.1.1) h2]; exact hS.1.2.1 q h1 h2, fun q hq => by
      rcases List.mem_append.mp hq with h | h
      · exact hS.1.2.2 q h
      · exact hL q h⟩, by rw [e1]; exact hsz⟩ T' rfl X'
  exact ⟨t2, st t2 a1, b1⟩
theorem PP.blind {as : List Value} : FrameBlind (PP ω μ as) := by
  intro a U g mk h
  obtain ⟨h1, h2, h3, h4, h5, h6⟩ := h
  exact ⟨h1, h2, KK.moved (u := U) (U := U.calling g mk a) (Vm.Alike.refl U.vm) h3, h5.2 U (U.calling g mk a) h4 (Or.inr rfl) (fun _ _ _ => rfl), h5, h6⟩
theorem PP.here {as : List Value} (C : Cx ω p s m args c cc nL own) (hH : Hd ω μ H) (hS : FS ω s H locs) (U : State) (hU : U.heap = H) (hW : s.WarmedH U.vm) : PP ω μ as as.toArray U :=
  ⟨rfl, by rw [hU]; exact hH, C.2.2.2.2.2.1.moved hW.alike, C.2.2.2.2.2.2.2.2 s U C.2.2.2.2.2.2.1 (Or.inl hW) (fun q h1 h2 => by rw [hU]; exact hS.1.2.1 q h1 h2), C.2.2.2.2.2.2.2, by rw [hU]; exact hS.2⟩
theorem good_wy {y : MethodName} {n : Nat} {ret : Option FieldType} (h : Cond.code y cc n ret ∈ lw_tbl) : GoodIn tblG (wy y cc n ret) := by
  intro w hw
  rcases List.mem_cons.mp hw with rfl | hw
  · exact ⟨tg h rfl, Or.inl rfl⟩
  · exact ⟨hw, good_of_word (List.mem_filter.mp hw).2⟩
/-- what the words say of a method that is called -/
def Mw (y : MethodName) (cy : ByteArray) (ny : Nat) (ry : Option FieldType) (np : Nat) : Prop := Cond.code y cy ny ry ∈ lw_tbl ∧ Cond.initialized y.cls ∈ lw_tbl ∧ y.cls ≠ "java/lang/invoke/MethodHandle" ∧ y.cls ≠ "java/lang/invoke/VarHandle" ∧ (parseMethodDescriptor y.desc).map (fun d => d.parameters.length) = some np
/-- a virtual call -/
theorem h_callV {y : MethodName} {cy : ByteArray} {ny np d : Nat} {ry : Option FieldType} {as : List Value} {v : Option Value} {μ1 : Mem} {index j t n : Nat} {r : vw_C} (C : Cx ω p s m args c cc nL own) (hl : ls.size = nL) (hH : Hd ω μ H) (hS : FS ω s H locs) (hM : Con l y cy ny ry d ω (.ref (wB ω + j) :: as) μ v μ1) (hy : Mw y cy ny ry np) (hw : Cond.methodLink own index y ∈ lw_tbl) (hwi : Cond.instanceMethod y ∈ lw_tbl) (hws : Cond.selects r.1 y y ∈ lw_tbl)
    (hv : wV ω j) (hd : (wDS ω)[j]? = some (t, n)) (ht : t < 100) (hr : classes[t]? = some r) (hn : as.length = np) (hR : d + 1 ≤ R.frames ∧ 8 + (ny + 11) + 64 * d ≤ R.locals) (hrest : (rest.map fun v => v.category).sum ≤ 8) (hcs : cells ≤ R.cells ∧ slots ≤ R.slots) (hdg : decode cc pc = .ok (.invokevirtual index, 3))
    (kk : ∀ (H1 : Heap) (locs1 : List Loc), Hd ω μ1 H1 → FS ω s H1 locs1 → W p l e R s m args below meth c H1 locs1 cells slots Q (F0 m (pc + 3) ls (v.toList ++ rest))) : W p l e R s m args below meth c H locs cells slots Q (F0 m pc ls (as.reverse ++ .ref (wB ω + j) :: rest)) := by
  obtain ⟨r', h1, cell, q1, q2, q3, q4⟩ := (hH j t n hv hd).1 ht
  cases h1.symm.trans hr
  refine h_after (mc := 0) (ms := 0) C hS (va_runV (As := as) (rest := rest) (b := wB ω + j) (C := r.1) (n := np) ⟨C.1, C.2.1, C.2.2.1, C.2.2.2.1, C.2.2.2.2.1⟩ hM ⟨callB_of np C.2.2.2.2.1 (good_wy hy.1) rfl rfl rfl (C.2.2.2.2.1 _ (tg hy.2.1 rfl)) (C.2.2.2.2.1 _ (tg hw rfl)) ⟨hy.2.2.1, hy.2.2.2.1, hy.2.2.2.2⟩ hR, C.2.2.2.2.1 _ (tg hwi rfl), C.2.2.2.2.1 _ (tg hws rfl)⟩ ⟨PP.blind, ⟨cell, q1, by rw [q3]; rfl, by rw [q2]; exact (C.2.2.2.2.2.1.1 t r hr).2.1⟩, fun U hU hW => PP.here C hH hS U hU hW⟩ rfl hn hl rfl (lv_room hrest) hdg ⟨hcs.1, hcs.2⟩) kk
/-- a static call -/
theorem h_callS {y : MethodName} {cy : ByteArray} {ny np d : Nat} {ry : Option FieldType} {as : List Value} {v : Option Value} {μ1 : Mem} {index : Nat} (C : Cx ω p s m args c cc nL own) (hl : ls.size = nL) (hH : Hd ω μ H) (hS : FS ω s H locs) (hM : Con l y cy ny ry d ω as μ v μ1) (hy : Mw y cy ny ry np) (hw : Cond.methodLink own index y ∈ lw_tbl) (hwi : Cond.static y ∈ lw_tbl)
    (hn : as.length = np) (hR : d + 1 ≤ R.frames ∧ 8 + (ny + 11) + 64 * d ≤ R.locals) (hrest : (rest.map fun v => v.category).sum ≤ 8) (hcs : cells ≤ R.cells ∧ slots ≤ R.slots) (hdg : decode cc pc = .ok (.invokestatic index, 3))
    (kk : ∀ (H1 : Heap) (locs1 : List Loc), Hd ω μ1 H1 → FS ω s H1 locs1 → W p l e R s m args below meth c H1 locs1 cells slots Q (F0 m (pc + 3) ls (v.toList ++ rest))) : W p l e R s m args below meth c H locs cells slots Q (F0 m pc ls (as.reverse ++ rest)) :=
  h_after (mc := 0) (ms := 0) C hS (va_runS (As := as) (rest := rest) (n := np) ⟨C.1, C.2.1, C.2.2.1, C.2.2.2.1, C.2.2.2.2.1⟩ hM ⟨callB_of np C.2.2.2.2.1 (good_wy hy.1) rfl rfl rfl (C.2.2.2.2.1 _ (tg hy.2.1 rfl)) (C.2.2.2.2.1 _ (tg hw rfl)) ⟨hy.2.2.1, hy.2.2.2.1, hy.2.2.2.2⟩ hR, C.2.2.2.2.1 _ (tg hwi rfl)⟩ ⟨PP.blind, fun U hU hW => PP.here C hH hS U hU hW⟩ rfl hn hl rfl (lv_room hrest) hdg ⟨hcs.1, hcs.2⟩) kk
end SH
