section EX
variable {p : Program} {l : Launch} {e : Env} {R : Room} {s : State} {m : MethodId} {args : Array Value} {below : List Frame} {meth : Method} {c : Code} {H : Heap} {locs : List Loc} {cells slots : Nat} {Q : State → Prop}
variable {cc : ByteArray} {pc nL : Nat} {ls : Array Slot} {rest : List Value} {ω : WW} {μ : Mem} {own : String} {X : Nat → Nat}
theorem x_ald {ty : FieldType} {a N : Nat} {g : Nat → Value} (hT : va_T ty a N g (wA ω) s s.heap) (hS : FS ω s H locs) : ∃ cell : Cell, H[a]? = some cell ∧ s.isArrayOf cell ty ∧ cell.vm ≠ .unknown ∧ N ≤ cell.slots.size ∧ cell.slots.size.toInt32 = Int32.ofNat N ∧ ∀ j : Nat, j < N → cell.slots[j]? = some (g j) := by
  obtain ⟨cell, h1, h2, h3, h4, h5, h6, h7⟩ := hT
  exact ⟨cell, by rw [hS.1.2.1 a (Array.getElem?_eq_some_iff.mp h1).1 h7]; exact h1, h2, h3, h4, h5, h6⟩
theorem x_in {i : Int32} {n k : Nat} (h : ix i n = true) (hk : n ≤ k) : ¬ (i < 0 ∨ k ≤ i.toNatClampNeg) := by
  have h1 := ix_in h
  rintro (q | q)
  · exact h1 (Or.inl q)
  · exact h1 (Or.inr (Nat.le_trans hk q))

theorem h_xMARK (hE : EF X (wA ω) s) (C : Cx ω p s m args c cc nL RX9) (hS : FS ω s H locs) (hdg : decode cc pc = .ok (.getstatic 26, 3))
    (kk : W p l e R s m args below meth c H locs cells slots Q (F0 m (pc + 3) ls (.ref (X 0) :: rest))) : W p l e R s m args below meth c H locs cells slots Q (F0 m pc ls rest) :=
  va_gets C.1 C.2.1 hE.1.1 hS.1 C.2.2.2.1 (C.2.2.2.2.1 _ (tg wd_1136 rfl)) (fun _ h => h) hdg kk
theorem h_xald_xMARK (hE : EF X (wA ω) s) (C : Cx ω p s m args c cc nL own) (hS : FS ω s H locs) {i : Int32} (hin : ix i 4 = true) (hdg : decode cc pc = .ok (.iaload, 1))
    (kk : W p l e R s m args below meth c H locs cells slots Q (F0 m (pc + 1) ls (.int (xMARK i.toNatClampNeg) :: rest))) : W p l e R s m args below meth c H locs cells slots Q (F0 m pc ls (.int i :: .ref (X 0) :: rest)) := by
  obtain ⟨cell, h1, h2, h3, h4, h5, h6⟩ := x_ald hE.1.2 hS
  exact W.iald (v := .int (xMARK i.toNatClampNeg)) C.1 C.2.1 h1 h2 h3 (x_in hin h4) (h6 _ (ix_lt hin)) rfl rfl hdg kk
theorem h_xlen_xMARK (hE : EF X (wA ω) s) (C : Cx ω p s m args c cc nL own) (hS : FS ω s H locs) (hdg : decode cc pc = .ok (.arraylength, 1))
    (kk : W p l e R s m args below meth c H locs cells slots Q (F0 m (pc + 1) ls (.int 4 :: rest))) : W p l e R s m args below meth c H locs cells slots Q (F0 m pc ls (.ref (X 0) :: rest)) := by
  obtain ⟨cell, h1, h2, h3, h4, h5, h6⟩ := x_ald hE.1.2 hS
  exact W.alen (n := 4) C.1 C.2.1 h1 h2 h5 rfl rfl hdg kk
theorem h_xLEAST (hE : EF X (wA ω) s) (C : Cx ω p s m args c cc nL RX4) (hS : FS ω s H locs) (hdg : decode cc pc = .ok (.getstatic 107, 3))
    (kk : W p l e R s m args below meth c H locs cells slots Q (F0 m (pc + 3) ls (.ref (X 1) :: rest))) : W p l e R s m args below meth c H locs cells slots Q (F0 m pc ls rest) :=
  va_gets C.1 C.2.1 hE.2.1.1 hS.1 C.2.2.2.1 (C.2.2.2.2.1 _ (tg wd_671 rfl)) (fun _ h => h) hdg kk
theorem h_xald_xLEAST (hE : EF X (wA ω) s) (C : Cx ω p s m args c cc nL own) (hS : FS ω s H locs) {i : Int32} (hin : ix i 9 = true) (hdg : decode cc pc = .ok (.iaload, 1))
    (kk : W p l e R s m args below meth c H locs cells slots Q (F0 m (pc + 1) ls (.int (xLEAST i.toNatClampNeg) :: rest))) : W p l e R s m args below meth c H locs cells slots Q (F0 m pc ls (.int i :: .ref (X 1) :: rest)) := by
  obtain ⟨cell, h1, h2, h3, h4, h5, h6⟩ := x_ald hE.2.1.2 hS
  exact W.iald (v := .int (xLEAST i.toNatClampNeg)) C.1 C.2.1 h1 h2 h3 (x_in hin h4) (h6 _ (ix_lt hin)) rfl rfl hdg kk
theorem h_xlen_xLEAST (hE : EF X (wA ω) s) (C : Cx ω p s m args c cc nL own) (hS : FS ω s H locs) (hdg : decode cc pc = .ok (.arraylength, 1))
    (kk : W p l e R s m args below meth c H locs cells slots Q (F0 m (pc + 1) ls (.int 9 :: rest))) : W p l e R s m args below meth c H locs cells slots Q (F0 m pc ls (.ref (X 1) :: rest)) := by
  obtain ⟨cell, h1, h2, h3, h4, h5, h6⟩ := x_ald hE.2.1.2 hS
  exact W.alen (n := 9) C.1 C.2.1 h1 h2 h5 rfl rfl hdg kk
theorem h_xMOST (hE : EF X (wA ω) s) (C : Cx ω p s m args c cc nL RX4) (hS : FS ω s H locs) (hdg : decode cc pc = .ok (.getstatic 104, 3))
    (kk : W p l e R s m args below meth c H locs cells slots Q (F0 m (pc + 3) ls (.ref (X 2) :: rest))) : W p l e R s m args below meth c H locs cells slots Q (F0 m pc ls rest) :=
  va_gets C.1 C.2.1 hE.2.2.1.1 hS.1 C.2.2.2.1 (C.2.2.2.2.1 _ (tg wd_669 rfl)) (fun _ h => h) hdg kk
theorem h_xald_xMOST (hE : EF X (wA ω) s) (C : Cx ω p s m args c cc nL own) (hS : FS ω s H locs) {i : Int32} (hin : ix i 9 = true) (hdg : decode cc pc = .ok (.iaload, 1))
    (kk : W p l e R s m args below meth c H locs cells slots Q (F0 m (pc + 1) ls (.int (xMOST i.toNatClampNeg) :: rest))) : W p l e R s m args below meth c H locs cells slots Q (F0 m pc ls (.int i :: .ref (X 2) :: rest)) := by
  obtain ⟨cell, h1, h2, h3, h4, h5, h6⟩ := x_ald hE.2.2.1.2 hS
  exact W.iald (v := .int (xMOST i.toNatClampNeg)) C.1 C.2.1 h1 h2 h3 (x_in hin h4) (h6 _ (ix_lt hin)) rfl rfl hdg kk
theorem h_xlen_xMOST (hE : EF X (wA ω) s) (C : Cx ω p s m args c cc nL own) (hS : FS ω s H locs) (hdg : decode cc pc = .ok (.arraylength, 1))
    (kk : W p l e R s m args below meth c H locs cells slots Q (F0 m (pc + 1) ls (.int 9 :: rest))) : W p l e R s m args below meth c H locs cells slots Q (F0 m pc ls (.ref (X 2) :: rest)) := by
  obtain ⟨cell, h1, h2, h3, h4, h5, h6⟩ := x_ald hE.2.2.1.2 hS
  exact W.alen (n := 9) C.1 C.2.1 h1 h2 h5 rfl rfl hdg kk
theorem h_signs (hE : EF X (wA ω) s) (C : Cx ω p s m args c cc nL RX8) (_hS : FS ω s H locs) (hdg : decode cc pc = .ok (.ldc 75, 2))
    (kk : W p l e R s m args below meth c H locs cells slots Q (F0 m (pc + 2) ls (.ref (X 4) :: rest))) : W p l e R s m args below meth c H locs cells slots Q (F0 m pc ls rest) :=
  va_ldcS C.1 C.2.1 C.2.2.2.1 hE.2.2.2.1.2 hdg kk
/-- a virtual call on a cell that is none of the world's -/
theorem h_callX {y : MethodName} {cy : ByteArray} {ny np d b : Nat} {ry : Option FieldType} {as st : List Value} {rr : Int32} {μ1 : Mem} {index : Nat} {C0 : String} (hM : Con l y cy ny ry d ω (.ref b :: as) μ (some (.int rr)) μ1) (C : Cx ω p s m args c cc nL own) (hl : ls.size = nL) (hH : Hd ω μ H) (hS : FS ω s H locs) (hst : st = as.reverse ++ .ref b :: rest) (hcell : ∃ cellB : Cell, H[b]? = some cellB ∧ cellB.vm.isStatics = false ∧ s.vm.findClass C0 = some cellB.cls) (hws : Cond.selects C0 y y ∈ lw_tbl) (hwi : Cond.instanceMethod y ∈ lw_tbl) (hy : Mw y cy ny ry np) (hw : Cond.methodLink own index y ∈ lw_tbl)
    (hn : as.length = np) (hR : d + 1 ≤ R.frames ∧ 8 + (ny + 11) + 64 * d ≤ R.locals) (hrest : (rest.map fun v => v.category).sum ≤ 8) (hcs : cells ≤ R.cells ∧ slots ≤ R.slots) (hdg : decode cc pc = .ok (.invokevirtual index, 3))
    (kk : ∀ (H1 : Heap) (locs1 : List Loc), Hd ω μ1 H1 → FS ω s H1 locs1 → W p l e R s m args below meth c H1 locs1 cells slots Q (F0 m (pc + 3) ls (.int rr :: rest))) : W p l e R s m args below meth c H locs cells slots Q (F0 m pc ls st) := by
  subst hst
  exact h_after (mc := 0) (ms := 0) C hS (va_runV (As := as) (rest := rest) (b := b) (C := C0) (n := np) ⟨C.1, C.2.1, C.2.2.1, C.2.2.2.1, C.2.2.2.2.1⟩ hM ⟨callB_of np C.2.2.2.2.1 (good_wy hy.1) rfl rfl rfl (C.2.2.2.2.1 _ (tg hy.2.1 rfl)) (C.2.2.2.2.1 _ (tg hw rfl)) ⟨hy.2.2.1, hy.2.2.2.1, hy.2.2.2.2⟩ hR, C.2.2.2.2.1 _ (tg hwi rfl), C.2.2.2.2.1 _ (tg hws rfl)⟩ ⟨PP.blind, hcell, fun U hU hW => PP.here C hH hS U hU hW⟩ rfl hn hl rfl (lv_room hrest) hdg ⟨hcs.1, hcs.2⟩) kk
def sigF (c : Int32) : List Int32 → Nat → Int32
  | [], _ => -1
  | b :: l, k => if b = c then nI k else sigF c l (k + 1)
/-- SIGNS.indexOf(c) -/
def fSIGNS (c : Int32) : Option Int32 := some (if c < 0 then -1 else if 255 < c then -1 else sigF c.toInt8.toInt32 xSIGNS 0)
end EX
