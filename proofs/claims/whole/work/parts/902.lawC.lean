section CL
variable {p : Program} {l : Launch} {e : Env} {R : Room} {s : State} {m : MethodId} {args : Array Value} {below : List Frame} {meth : Method} {c : Code} {H : Heap} {locs : List Loc} {cells slots : Nat} {Q : State → Prop}
variable {cc : ByteArray} {pc nL : Nat} {ls : Array Slot} {rest : List Value} {μ : Mem} {own : String}
variable {G : GG} {DS : List (Nat × Nat)} {B lo hi : Nat} {E : State → Prop} {N N' : Nat → Nat → Bool}
theorem k_newL (C : Cx (ωk G DS B lo hi E N) p s m args c cc nL own) (hH : Hd (ωk G DS B lo hi E N) μ H) (hS : FS (ωk G DS B lo hi E N) s H locs) (hl : lo ≤ hi) {t n index : Nat} {r : vw_C} {ty : Nat → FieldType} (hd : DS[hi]? = some (t, n)) (ht : t < 100) (hr : classes[t]? = some r) (hty : ∀ k, k < r.2.2 → parseFieldDescriptor (r.2.1 k).2.2.1 = some (ty k)) (hdv : ∀ k, k < r.2.2 → defaultValue (ty k) = if FT t k = 0 then .int 0 else .null) (hN : ∀ k, N' hi k = true) (hN2 : ∀ j k, j < hi → N' j k = N j k) (hw : Cond.classLink own index r.1 ∈ lw_tbl) (hwi : Cond.instantiable r.1 r.2.2 ∈ lw_tbl) (hwn : Cond.initialized r.1 ∈ lw_tbl) (hcells : cells + 1 ≤ R.cells) (hslots : slots + r.2.2 ≤ R.slots) (hdg : decode cc pc = .ok (.new index, 3))
    (kk : ∀ H1 : Heap, Hd (ωk G DS B lo (hi + 1) E N') (zr μ hi) H1 → FS (ωk G DS B lo (hi + 1) E N') s H1 locs → (∀ q, q < B + hi → H1[q]? = H[q]?) → W p l e R s m args below meth c H1 locs (cells + 1) (slots + r.2.2) Q (F0 m (pc + 3) ls (.ref (B + hi) :: rest))) : W p l e R s m args below meth c H locs cells slots Q (F0 m pc ls rest) := by
  have hKn := C.2.2.2.2.2.1.1 t r hr
  have hts := C.2.2.2.2.1
  refine W.newcK C.1 C.2.1 C.2.2.2.1 (hts _ (tg hw rfl)) (hts _ (tg hwi rfl)) (hts _ (tg hwn rfl)) rfl hdg hcells hslots hKn.2.1 (hS.2 : H.size = B + hi) fun H1 kC hkC e1 z1 o1 => ?_
  refine kk H1 (hH.grow hl o1 hd ⟨fun _ => ⟨r, hr, (u_born ty hts (cl_ok t r hr).1 hKn hkC e1 hty).to fun k hk => ?_⟩, fun h => absurd ht (Nat.not_lt.mpr h)⟩ hN2) (hS.grow o1 z1 (Nat.le_succ _)) o1
  rw [hdv k hk]
  unfold fv
  by_cases h0 : FT t k = 0
  · simp [h0, zr_eq]
  · simp [h0, hN]
theorem k_initL {y : MethodName} {cy : ByteArray} {ny np d mc ms len index : Nat} {as st : List Value} {μ1 : Mem} (hM : Ini l y cy ny d mc ms G DS B hi len E as μ μ1) (hok : Eok (B + lo) E) (C : Cx (ωk G DS B lo (hi + 1) E N) p s m args c cc nL own) (hsz : ls.size = nL) (hl : lo ≤ hi) (hH : Hd (ωk G DS B lo (hi + 1) E N) μ H) (hN : ∀ k, N hi k = true) (hN2 : ∀ j k, j < hi → N' j k = N j k) (hN3 : ∀ j k, hi ≤ j → N' j k = false) (hS : FS (ωk G DS B lo (hi + 1) E N) s H locs) (hst : st = as.reverse ++ .ref (B + hi) :: rest) (hy : Mw y cy ny none np) (hyn : y.name = "<init>") (hwi : Cond.instanceMethod y ∈ lw_tbl) (hw : Cond.methodLink own index y ∈ lw_tbl)
    (hn : as.length = np) (hR : d + 1 ≤ R.frames ∧ 8 + (ny + 11) + 64 * d ≤ R.locals) (hrest : (rest.map fun v => v.category).sum ≤ 8) (hcs : cells + mc ≤ R.cells ∧ slots + ms ≤ R.slots) (hdg : decode cc pc = .ok (.invokespecial index, 3))
    (kk : ∀ (H1 : Heap) (locs1 : List Loc), Hd (ωk G DS B lo (hi + len) E N') (mg hi μ μ1) H1 → FS (ωk G DS B lo (hi + len) E N') s H1 locs1 → (∀ q, q < B + hi → H1[q]? = H[q]?) → W p l e R s m args below meth c H1 locs1 (cells + mc) (slots + ms) Q (F0 m (pc + 3) ls rest)) : W p l e R s m args below meth c H locs cells slots Q (F0 m pc ls st) := by
  subst hst
  have hz : H.size = B + (hi + 1) := hS.2
  have hHc : Hd (ωk G DS B hi (hi + 1) E (fun _ _ => true)) μ H := by
    intro j t n hv hd
    have hv : hi ≤ j ∧ j < hi + 1 := hv
    have ej : j = hi := by omega
    subst ej
    have h0 : cell_at G B N μ j t n H := hH j t n ⟨hl, hv.2⟩ hd
    exact h0.mask (fun k => (hN k).symm)
  have hrun := va_runI (As := as) (rest := rest) (b := B + hi) (n := np) (g := F0 m pc ls (as.reverse ++ .ref (B + hi) :: rest)) (e := e) (below := below) (H := H) (locs := locs) (cells := cells) (slots := slots) (R := R) (meth := meth) (p := p) ⟨C.1, C.2.1, C.2.2.1, C.2.2.2.1, C.2.2.2.2.1⟩ hM ⟨callB_of np C.2.2.2.2.1 (good_wy hy.1) rfl rfl rfl (C.2.2.2.2.1 _ (tg hy.2.1 rfl)) (C.2.2.2.2.1 _ (tg hw rfl)) ⟨hy.2.2.1, hy.2.2.2.1, hy.2.2.2.2⟩ hR, hyn, C.2.2.2.2.1 _ (tg hwi rfl)⟩
    ⟨fun a U g mk q => by
      obtain ⟨h1, h2, h3, h4, h5, h6⟩ := q
      exact ⟨h1, h2, h3, KK.moved (u := U) (U := U.calling g mk a) (Vm.Alike.refl U.vm) h4, h6 U (U.calling g mk a) h5 (Or.inr rfl) (fun _ _ _ => rfl), h6⟩,
     fun U hU hW => ⟨rfl, by rw [hU]; exact hHc, by rw [hU]; exact hz, C.2.2.2.2.2.1.moved hW.alike, hok s U C.2.2.2.2.2.2.1 (Or.inl hW) (fun q h1 h2 => by rw [hU]; exact hS.1.2.1 q h1 (fun z => by have z : B + lo ≤ q := z; omega)), hok.up (Nat.add_le_add_left hl B)⟩⟩ rfl hn hsz rfl (lv_room hrest) hdg hcs
  intro T hT X
  obtain ⟨v', st₀, t, T', L, h0, X', hL, e1, e2, ⟨hv, hH1, hsz1, hz1, hk1⟩, stp⟩ := hrun T hT X
  cases hv
  rw [h0] at hz1 hk1
  have hlow : ∀ q : Nat, q < B + hi → t.heap[q]? = H[q]? := fun q hq => hk1 q (by omega) (fun z => by have z : B + hi ≤ q := z; omega)
  obtain ⟨t2, a1, b1⟩ := kk T'.heap (locs ++ L) (fun j t' n' hv hd => by
      have hv : lo ≤ j ∧ j < hi + len := hv
      have hd : DS[j]? = some (t', n') := hd
      rw [e1]
      by_cases ej : j < hi
      · have h9 : cell_at G B N μ j t' n' H := hH j t' n' ⟨hv.1, by omega⟩ hd
        exact ((h9.same (mg_lo ej).1 (mg_lo ej).2).mask (fun k => hN2 j k ej)).kept (hlow _ (by omega))
      · have h9 : cell_at G B (fun _ _ => false) μ1 j t' n' t.heap := hH1 j t' n' ⟨by omega, hv.2⟩ hd
        exact (h9.same (mg_hi (Nat.not_lt.mp ej)).1 (mg_hi (Nat.not_lt.mp ej)).2).mask (fun k => hN3 j k (by omega))) ⟨⟨by rw [e1]; have := hS.1.1; omega, fun q g1 g2 => by rw [e1, hlow q (by have g2 : ¬ B + lo ≤ q := g2; omega)]; exact hS.1.2.1 q g1 g2, fun q hq => by
      rcases List.mem_append.mp hq with h | h
      · exact hS.1.2.2 q h
      · have := hL q h
        show B + lo ≤ q.base
        omega⟩, by rw [e1]; exact hsz1⟩ (fun q hq => by rw [e1]; exact hlow q hq) T' rfl X'
  exact ⟨t2, stp t2 a1, b1⟩
end CL
set_option maxRecDepth 20000 in
theorem wx_149 : Cond.laysStatic "java/lang/String" "COMPACT_STRINGS" "Z" ∈ lw_tbl := in_t1 _ (List.mem_of_getElem? (i := 52) rfl)
set_option maxRecDepth 20000 in
theorem wx_165 : Cond.laysStatic "jdk/internal/util/Preconditions" "SIOOBE_FORMATTER" "Ljava/util/function/BiFunction;" ∈ lw_tbl := in_t1 _ (List.mem_of_getElem? (i := 68) rfl)
set_option maxRecDepth 20000 in
theorem wx_670 : Cond.laysStatic "SummerHouses$Reader" "MOST" "[I" ∈ lw_tbl := in_t3 _ (List.mem_of_getElem? (i := 93) rfl)
set_option maxRecDepth 20000 in
theorem wx_672 : Cond.laysStatic "SummerHouses$Reader" "LEAST" "[I" ∈ lw_tbl := in_t3 _ (List.mem_of_getElem? (i := 95) rfl)
set_option maxRecDepth 20000 in
theorem wx_1137 : Cond.laysStatic "SummerHouses$Told" "CELL_OF_MARK" "[I" ∈ lw_tbl := in_t5 _ (List.mem_of_getElem? (i := 80) rfl)
set_option maxRecDepth 20000 in
theorem wx_139 : Cond.stringRef "SummerHouses$Tokens" 15 "house cools warms fades mends coals roof hail seed if then else panes broken heat kept open leaves burnt day which " ∈ lw_tbl := in_t1 _ (List.mem_of_getElem? (i := 42) rfl)
set_option maxRecDepth 20000 in
theorem wx_580 : Cond.stringRef "SummerHouses$Tokens" 75 ";=+-*/<()" ∈ lw_tbl := in_t3 _ (List.mem_of_getElem? (i := 3) rfl)
theorem aoa_spec {U : State} (h : (Cond.arrayOver (.array .int)).before #[] U = true) : ∃ comp c k, U.vm.findClass (FieldType.array .int).toString = some comp ∧ (U.vm.classes.findIdx? fun (x : Class) => match x.kind with | .array component _ => component == comp | _ => false) = some c ∧ U.vm.classes[c]? = some k ∧ k.kind = .array comp (.array .int) ∧ U.vm.findClass ("[" ++ (FieldType.array .int).toString) = some c := by
  unfold Cond.before at h
  simp only [Cond.holds, Cond.value, beq_iff_eq] at h
  cases hc : U.vm.findClass (FieldType.array .int).toString with
  | none => simp [hc] at h
  | some comp =>
    simp only [hc, Option.bind_some, Option.bind_eq_some_iff, Option.map_eq_some_iff] at h
    obtain ⟨c, hi, k, hk, hb⟩ := h
    obtain ⟨hlt, hp, -⟩ := Array.findIdx?_eq_some_iff_getElem.mp hi
    have hkk : U.vm.classes[c] = k := (Array.getElem?_eq_some_iff.mp hk).2
    rw [hkk] at hp
    cases hkind : k.kind with
    | array component ty =>
      rw [hkind] at hb hp
      simp at hb hp
      exact ⟨comp, c, k, rfl, hi, hk, by rw [hkind, hp, hb.1], hb.2⟩
    | _ => rw [hkind] at hb; simp at hb
theorem aoa_moved {u U : State} (hvm : u.vm.Alike U.vm) (h : (Cond.arrayOver (.array .int)).before #[] u = true) : (Cond.arrayOver (.array .int)).before #[] U = true := by
  obtain ⟨comp, c, k, h1, h2, h3, h4, h5⟩ := aoa_spec h
  obtain ⟨k', hk', he⟩ := hvm.2.2 _ _ h3
  have hi : (U.vm.classes.findIdx? fun (x : Class) => match x.kind with | .array component _ => component == comp | _ => false) = some c := by
    have e1 := va_idx_bare U.vm comp
    have e2 := va_idx_bare u.vm comp
    have e3 : U.vm.bare = u.vm.bare := by first | exact hvm.bare_eq | exact hvm.bare_eq.symm
    rw [e3] at e1
    exact (e1.symm.trans e2).trans h2
  have hkind : k'.kind = .array comp (.array .int) := by rw [he]; exact h4
  have f1 : U.vm.findClass (FieldType.array .int).toString = some comp := by rw [hvm.findClass]; exact h1
  have f2 : U.vm.findClass ("[" ++ (FieldType.array .int).toString) = some c := by rw [hvm.findClass]; exact h5
  unfold Cond.before Cond.holds
  simp only [Cond.value]
  rw [f1, Option.bind_some]
  refine (congrArg (fun o : Option Nat => (o.bind (fun c => (U.vm.classes[c]?).map fun (k : Class) => match k.kind with | .array _ ty => decide (ty = FieldType.array .int) && decide (U.vm.findClass ("[" ++ (FieldType.array .int).toString) = some c) | _ => false) == some true)) hi).trans ?_
  simp [hk', hkind, f2]
theorem KX.moved {G : GG} {u U : State} (hvm : u.vm.Alike U.vm) (h : KX G u) : KX G U := ⟨fun t h1 h2 => by rw [hvm.findClass]; exact h.1 t h1 h2, va_AO.moved hvm h.2.1, aoa_moved hvm h.2.2⟩
theorem alike_or {u U : State} (h : u.WarmedH U.vm ∨ U.vm = u.vm) : u.vm.Alike U.vm := by
  rcases h with h | h
  · exact h.alike
  · rw [h]; exact Vm.Alike.refl _
theorem vk_or {own tx : String} {k a : Nat} {u U : State} (h : u.WarmedH U.vm ∨ U.vm = u.vm) (hR : vk_R own k tx a u) : vk_R own k tx a U := by
  rcases h with h | h
  · exact hR.warm h
  · exact hR.same h
def EE (X : Nat → Nat) (G : GG) (B : Nat) (U : State) : Prop := EF X (fun q => B ≤ q) U ∧ KX G U
theorem Eok_EE {X : Nat → Nat} {G : GG} {B : Nat} : Eok B (EE X G B) := by
  intro u U hE hw hk
  have hvm := alike_or hw
  have hq : ∀ a : Nat, a < u.heap.size → ¬ B ≤ a → U.heap[a]? = u.heap[a]? := fun a h1 h2 => hk a h1 (by omega)
  obtain ⟨⟨a1, a2⟩, ⟨b1, b2⟩, ⟨c1, c2⟩, ⟨d1, d2⟩, e1, f1, g1⟩ := hE.1
  exact ⟨⟨⟨(a1.moved hvm).kept hq, (a2.moved hvm).kept hq⟩, ⟨(b1.moved hvm).kept hq, (b2.moved hvm).kept hq⟩, ⟨(c1.moved hvm).kept hq, (c2.moved hvm).kept hq⟩, ⟨vk_or hw d1, vk_or hw d2⟩, (e1.moved hvm).kept hq, (f1.moved hvm).kept hq, (g1.moved hvm).kept hq⟩, hE.2.moved hvm⟩
def tmS (i : Nat) : Term := .string "SummerHouses$Tokens" (([15, 75] : List Nat).getD i 0)
set_option maxRecDepth 100000 in
/-- the outside facts at the law's start -/
theorem EF_start {b : Nat} {s : State} (hts : ∀ w ∈ lw_tbl, w.before #[Value.ref b] s = true) (hgv : (Jvm.Cond.and given_1 narrow_1).before #[Value.ref b] s = true) : ∃ X : Nat → Nat, EF X (fun q => s.heap.size ≤ q) s := by
  have hs := flat_of_before _ hgv
  have hA : ∀ a : Nat, a < s.heap.size → ¬ (fun q => s.heap.size ≤ q) a := fun a h z => by have z : s.heap.size ≤ a := z; omega
  obtain ⟨x0, h0, t0⟩ := va_Tof (tm := .static "SummerHouses$Told" "CELL_OF_MARK" "[I") (ty := .int) (N := 4) (f := fun j => .int (xMARK j)) (A := fun q => s.heap.size ≤ q) (by decide) (hs _ (by decide +kernel)) (va_eqt (hs _ (by decide +kernel))) (fun j hj => va_eqt (hs _ ((by decide +kernel : ∀ j, j < 4 → Cond.eq (.elem (.static "SummerHouses$Told" "CELL_OF_MARK" "[I") (.int (Int32.ofNat j))) (.int (xMARK j)) ∈ flatC (Jvm.Cond.and given_1 narrow_1)) j hj))) hA
  obtain ⟨x1, h1, t1⟩ := va_Tof (tm := .static "SummerHouses$Reader" "LEAST" "[I") (ty := .int) (N := 9) (f := fun j => .int (xLEAST j)) (A := fun q => s.heap.size ≤ q) (by decide) (hs _ (by decide +kernel)) (va_eqt (hs _ (by decide +kernel))) (fun j hj => va_eqt (hs _ ((by decide +kernel : ∀ j, j < 9 → Cond.eq (.elem (.static "SummerHouses$Reader" "LEAST" "[I") (.int (Int32.ofNat j))) (.int (xLEAST j)) ∈ flatC (Jvm.Cond.and given_1 narrow_1)) j hj))) hA
  obtain ⟨x2, h2, t2⟩ := va_Tof (tm := .static "SummerHouses$Reader" "MOST" "[I") (ty := .int) (N := 9) (f := fun j => .int (xMOST j)) (A := fun q => s.heap.size ≤ q) (by decide) (hs _ (by decide +kernel)) (va_eqt (hs _ (by decide +kernel))) (fun j hj => va_eqt (hs _ ((by decide +kernel : ∀ j, j < 9 → Cond.eq (.elem (.static "SummerHouses$Reader" "MOST" "[I") (.int (Int32.ofNat j))) (.int (xMOST j)) ∈ flatC (Jvm.Cond.and given_1 narrow_1)) j hj))) hA
  obtain ⟨adK, adV, hS, hK⟩ := vk_Sof (tm := tmS) (N := 2) (len := [115, 9]) (byt := [xWORDS, xSIGNS]) (A := fun q => s.heap.size ≤ q) (args := #[Value.ref b]) (s := s) (by decide) (fun i hi => hs _ ((by decide +kernel : ∀ i, i < 2 → Cond.exactly (tmS i) "java/lang/String" ∈ flatC (Jvm.Cond.and given_1 narrow_1)) i hi)) (fun i hi => hs _ ((by decide +kernel : ∀ i, i < 2 → Cond.eq (.field (tmS i) "java/lang/String" "coder" "B") (.int 0) ∈ flatC (Jvm.Cond.and given_1 narrow_1)) i hi))
    (fun i hi => hs _ ((by decide +kernel : ∀ i, i < 2 → Cond.arrayOf (.field (tmS i) "java/lang/String" "value" "[B") .byte ∈ flatC (Jvm.Cond.and given_1 narrow_1)) i hi)) (fun i hi => hs _ ((by decide +kernel : ∀ i, i < 2 → Cond.eq (.length (.field (tmS i) "java/lang/String" "value" "[B")) (.int (Int32.ofNat (([115, 9] : List Nat).getD i 0))) ∈ flatC (Jvm.Cond.and given_1 narrow_1)) i hi))
    (fun i hi j hj => hs _ ((by decide +kernel : ∀ i, i < 2 → ∀ j, j < ([115, 9] : List Nat).getD i 0 → Cond.eq (.elem (.field (tmS i) "java/lang/String" "value" "[B") (.int (Int32.ofNat j))) (.int ((([xWORDS, xSIGNS] : List (List Int32)).getD i []).getD j 0)) ∈ flatC (Jvm.Cond.and given_1 narrow_1)) i hi j hj))
    (fun i j hi hj hne => by
      have h9 : Cond.not (Cond.eq (tmS 0) (tmS 1)) ∈ flatC (Jvm.Cond.and given_1 narrow_1) ∨ Cond.not (Cond.eq (tmS 1) (tmS 0)) ∈ flatC (Jvm.Cond.and given_1 narrow_1) := by decide +kernel
      rcases (show (i = 0 ∧ j = 1) ∨ (i = 1 ∧ j = 0) by omega) with ⟨rfl, rfl⟩ | ⟨rfl, rfl⟩
      · rcases h9 with h | h
        · exact Or.inl (hs _ h)
        · exact Or.inr (hs _ h)
      · rcases h9 with h | h
        · exact Or.inr (hs _ h)
        · exact Or.inl (hs _ h)) hA
  refine ⟨fun k => if k = 0 then x0 else if k = 1 then x1 else if k = 2 then x2 else if k = 3 then adK 0 else if k = 4 then adK 1 else if k = 5 then adV 0 else adV 1, ⟨va_Zof (hts _ wx_1137) (hts _ wd_113) h0 hA, t0⟩, ⟨va_Zof (hts _ wx_672) (hts _ wd_99) h1 hA, t1⟩, ⟨va_Zof (hts _ wx_670) (hts _ wd_99) h2 hA, t2⟩, ⟨vk_R.of (hts _ wx_139) (hK 0 (by decide)), vk_R.of (hts _ wx_580) (hK 1 (by decide))⟩, ?_, va_Zof (hts _ wx_149) (hts _ wd_101) (va_eqi (hs _ (by decide +kernel))) hA, va_Zqof (hts _ wx_165) (hts _ wd_103) (hs _ (by decide +kernel)) hA⟩
  refine ⟨fun i hi => ?_, fun i j hi hj hij => ?_⟩
  · rcases (show i = 0 ∨ i = 1 by omega) with rfl | rfl
    · exact hS.1 0 (by decide)
    · exact hS.1 1 (by decide)
  · rcases (show i = 0 ∨ i = 1 by omega) with rfl | rfl <;> rcases (show j = 0 ∨ j = 1 by omega) with rfl | rfl
    · rfl
    · exact hS.2 0 1 (by decide) (by decide) hij
    · exact hS.2 1 0 (by decide) (by decide) hij
    · rfl
/-- the tables' facts at the law's start -/
theorem KG_start {b : Nat} {s : State} (hts : ∀ w ∈ lw_tbl, w.before #[Value.ref b] s = true) : ∃ G : GG, KK G s ∧ KX G s := by
  obtain ⟨c0, iS0, hK0⟩ := u_known (C := RX0) (T := TX0) (N := 5) (n := 5) hts inX0 (hts (.instantiable RX0 5) wd_349)
  obtain ⟨c1, iS1, hK1⟩ := u_known (C := RX1) (T := TX1) (N := 5) (n := 5) hts inX1 (hts (.instantiable RX1 5) wd_218)
  obtain ⟨c2, iS2, hK2⟩ := u_known (C := RX2) (T := TX2) (N := 3) (n := 3) hts inX2 (hts (.instantiable RX2 3) wd_437)
  obtain ⟨c3, iS3, hK3⟩ := u_known (C := RX3) (T := TX3) (N := 7) (n := 7) hts inX3 (hts (.instantiable RX3 7) wd_212)
  obtain ⟨c4, iS4, hK4⟩ := u_known (C := RX4) (T := TX4) (N := 6) (n := 6) hts inX4 (hts (.instantiable RX4 6) wd_128)
  obtain ⟨c5, iS5, hK5⟩ := u_known (C := RX5) (T := TX5) (N := 2) (n := 2) hts inX5 (hts (.instantiable RX5 2) wd_423)
  obtain ⟨c6, iS6, hK6⟩ := u_known (C := RX6) (T := TX6) (N := 6) (n := 6) hts inX6 (hts (.instantiable RX6 6) wd_376)
  obtain ⟨c7, iS7, hK7⟩ := u_known (C := RX7) (T := TX7) (N := 5) (n := 5) hts inX7 (hts (.instantiable RX7 5) wd_317)
  obtain ⟨c8, iS8, hK8⟩ := u_known (C := RX8) (T := TX8) (N := 5) (n := 5) hts inX8 (hts (.instantiable RX8 5) wd_134)
  obtain ⟨c9, iS9, hK9⟩ := u_known (C := RX9) (T := TX9) (N := 4) (n := 4) hts inX9 (hts (.instantiable RX9 4) wd_455)
  obtain ⟨c10, iS10, hK10⟩ := u_known (C := RX10) (T := TX10) (N := 3) (n := 3) hts inX10 (hts (.instantiable RX10 3) wd_405)
  obtain ⟨c11, iS11, hK11⟩ := u_known (C := RX11) (T := TX11) (N := 17) (n := 17) hts inX11 (hts (.instantiable RX11 17) wd_120)
  obtain ⟨c12, iS12, hK12⟩ := u_known (C := RX12) (T := TX12) (N := 69) (n := 69) hts inX12 (hts (.instantiable RX12 69) wd_1160)
  obtain ⟨ai, ki, mi, fi, gi, ni⟩ := Cond.arrayClass_spec (type := .int) (hts _ wd_210)
  obtain ⟨az, kz, mz, fz, gz, nz⟩ := Cond.arrayClass_spec (type := .boolean) (hts _ wd_374)
  obtain ⟨ab, kb, mb, fb, gb, nb⟩ := Cond.arrayClass_spec (type := .byte) (hts _ wd_208)
  obtain ⟨aj, kj, mj, fj, gj, nj⟩ := Cond.arrayClass_spec (type := .long) (hts _ wd_209)
  obtain ⟨ms, as, ks, hms, -, gs, ns, fs⟩ := Cond.arrayOver_spec (n := "SummerHouses$State") (hts _ wd_355)
  have hoa : (Cond.arrayOver (.array .int)).before #[] s = true := hts _ wd_384
  obtain ⟨mi2, ai2, ki2, -, -, gi2, ni2, fi2⟩ := aoa_spec hoa
  refine ⟨(fun t => match t with
    | 0 => c0
    | 1 => c1
    | 2 => c2
    | 3 => c3
    | 4 => c4
    | 5 => c5
    | 6 => c6
    | 7 => c7
    | 8 => c8
    | 9 => c9
    | 10 => c10
    | 11 => c11
    | _ => c12, fun t => match t with
    | 0 => iS0
    | 1 => iS1
    | 2 => iS2
    | 3 => iS3
    | 4 => iS4
    | 5 => iS5
    | 6 => iS6
    | 7 => iS7
    | 8 => iS8
    | 9 => iS9
    | 10 => iS10
    | 11 => iS11
    | _ => iS12, fun t => match t with
    | 100 => ai
    | 101 => az
    | 102 => ab
    | 103 => aj
    | 104 => as
    | _ => ai2), ⟨fun t q hq => ?_, fun t h1 h2 => ?_⟩, fun t h1 h2 => ?_, hts _ wd_355, hoa⟩
  · match t, hq with
    | 0, hq => cases hq; exact hK0
    | 1, hq => cases hq; exact hK1
    | 2, hq => cases hq; exact hK2
    | 3, hq => cases hq; exact hK3
    | 4, hq => cases hq; exact hK4
    | 5, hq => cases hq; exact hK5
    | 6, hq => cases hq; exact hK6
    | 7, hq => cases hq; exact hK7
    | 8, hq => cases hq; exact hK8
    | 9, hq => cases hq; exact hK9
    | 10, hq => cases hq; exact hK10
    | 11, hq => cases hq; exact hK11
    | 12, hq => cases hq; exact hK12
    | t + 13, hq => simp [classes] at hq
  · rcases (show t = 100 ∨ t = 101 ∨ t = 102 ∨ t = 103 ∨ t = 104 ∨ t = 105 by omega) with rfl | rfl | rfl | rfl | rfl | rfl
    · exact fun n z => ⟨fun k h => (by cases h), ki, gi, mi, ni⟩
    · exact fun n z => ⟨fun k h => (by cases h), kz, gz, mz, nz⟩
    · exact fun n z => ⟨fun k h => (by cases h), kb, gb, mb, nb⟩
    · exact fun n z => ⟨fun k h => (by cases h), kj, gj, mj, nj⟩
    · exact fun n z => ⟨fun k h => (by cases h), ks, gs, ms, ns⟩
    · exact fun n z => ⟨fun k h => (by cases h), ki2, gi2, mi2, ni2⟩
  · rcases (show t = 100 ∨ t = 101 ∨ t = 102 ∨ t = 103 ∨ t = 104 ∨ t = 105 by omega) with rfl | rfl | rfl | rfl | rfl | rfl
    · exact fi
    · exact fz
    · exact fb
    · exact fj
    · exact fs
    · exact fi2
theorem law_loop {p : Program} {l : Launch} {e : Env} {s : State} {m : MethodId} {below : List Frame} {meth : Method} {c : Code} {G : GG} {B : Nat} {E : State → Prop} {b L : Nat} {xs : Nat → Int32} (X : LX G B E p s m #[Value.ref b] c) (hr : meth.sig.returnType = ret) (hlocks : meth.locks = false) {Xx : Nat → Nat} (hEX : ∀ U, E U → EF Xx (fun q => B + 1 ≤ q) U) (hX : va_X b L xs s s.heap) (hbl : b < s.heap.size) (hL2 : L ≤ 3072) :
    ∀ (n i : Nat) (H : Heap) (μ ν : Mem) (ls : Array Slot), i ≤ L + 6 → L + 6 - i < n → lv_has ls 4 [(3, .int (nI i)), (2, .ref (B + 191 + 0)), (1, .ref (B + 1)), (0, .ref b)] → LI G B E s μ ν H → REL μ ν → W p l e room_1 s m #[Value.ref b] below meth c H [] 600000 7302250 (lw_Z below #[Value.ref b] s) (F0 m 18 ls []) := by
  have hx := X.1
  have hb := X.2.1
  have hB := X.2.2.2.2.2.2.2.2
  intro n
  induction n with
  | zero => intro i H μ ν ls h1 h2; omega
  | succ n ih =>
    intro i H μ ν ls hi hn hl hL hR
    refine lv_iload_n hx hb dL_law_18 rfl (lv_at hl 0 rfl) ?_
    refine lv_aload_n hx hb dL_law_19 rfl (lv_at hl 3 rfl) ?_
    refine va_slen hx hb (A := fun q => B + 1 ≤ q) hX hbl (fun h => by omega) (hL.S hB) dL_law_20 ?_
    refine lv_bipush (v := nI 6) hx hb dL_law_21 (by decide) ?_
    refine lv_isub hx hb dL_law_23 ?_
    have hcmp : ((Int32.ofNat L - nI 6) < nI i) ↔ L < i + 6 := by
      rw [Int32.lt_iff_toInt_lt]
      have e1 : (Int32.ofNat L - nI 6).toInt = (L : Int) - 6 := pk_sub_toInt (a := L) (b := 6) (by omega) (by omega)
      rw [e1, nI_toInt (show i < 2 ^ 31 by omega)]
      omega
    refine lv_icmp_gt (tgt := 1323) hx hb dL_law_24 (by decide) (fun hc => ?_) (fun hc => ?_)
    · refine lv_iconst (v := 1) hx hb dL_law_1323 (by decide) ?_
      exact lw_ret hx hb hr hlocks dL_law_1324
    · have hi6 : i + 6 ≤ L := by
        rcases Nat.lt_or_ge L (i + 6) with h | h
        · exact absurd (hcmp.mpr h) hc
        · exact h
      have next : ∀ (H : Heap) (μ ν : Mem), LI G B E s μ ν H → REL μ ν → W p l e room_1 s m #[Value.ref b] below meth c H [] 600000 7302250 (lw_Z below #[Value.ref b] s) (F0 m 1317 ls []) := by
        intro H μ ν hL hR
        refine lv_iinc (v := nI (i + 6)) (lv' := [(3, .int (nI (i + 6))), (2, .ref (B + 191 + 0)), (1, .ref (B + 1)), (0, .ref b)]) hx hb dL_law_1317 hl (k := 0) rfl (nI_add i 6) (by decide) rfl (fun ls hl => ?_)
        refine lv_goto (tgt := 18) hx hb dL_law_1320 (by decide) ?_
        exact ih (i + 6) H μ ν ls (by omega) (by omega) hl hL hR
      have hcs : 600000 ≤ 600000 ∧ 7302250 ≤ 7302250 := ⟨Nat.le_refl _, Nat.le_refl _⟩
      refine lv_aload_n hx hb dL_law_27 rfl (lv_at hl 3 rfl) ?_
      refine lv_iload_n hx hb dL_law_28 rfl (lv_at hl 0 rfl) ?_
      refine l_ld (j := i) X hX hbl hL (by omega) hL2 rfl dL_law_29 ?_
      refine lv_bipush (v := 63) hx hb dL_law_30 (by decide) ?_
      refine lv_iand hx hb dL_law_32 ?_
      generalize xs i &&& 63 = y
      by_cases h0 : y = 0
      · refine lv_tableIn (tgt := 212) (off := 179) hx hb dL_law_33 (by rw [h0]; decide) (by rw [h0]; decide) (by rw [h0]; rfl) (by decide) ?_
        exact case_0 X hEX hX hbl hL2 hcs hi6 hl hL hR next
      by_cases h1 : y = 1
      · refine lv_tableIn (tgt := 275) (off := 242) hx hb dL_law_33 (by rw [h1]; decide) (by rw [h1]; decide) (by rw [h1]; rfl) (by decide) ?_
        exact case_1 X hEX hX hbl hL2 hcs hi6 hl hL hR next
      by_cases h2 : y = 2
      · refine lv_tableIn (tgt := 298) (off := 265) hx hb dL_law_33 (by rw [h2]; decide) (by rw [h2]; decide) (by rw [h2]; rfl) (by decide) ?_
        exact case_2 X hEX hX hbl hL2 hcs hi6 hl hL hR next
      by_cases h3 : y = 3
      · refine lv_tableIn (tgt := 311) (off := 278) hx hb dL_law_33 (by rw [h3]; decide) (by rw [h3]; decide) (by rw [h3]; rfl) (by decide) ?_
        exact case_3 X hEX hX hbl hL2 hcs hi6 hl hL hR next
      by_cases h4 : y = 4
      · refine lv_tableIn (tgt := 324) (off := 291) hx hb dL_law_33 (by rw [h4]; decide) (by rw [h4]; decide) (by rw [h4]; rfl) (by decide) ?_
        exact case_4 X hEX hX hbl hL2 hcs hi6 hl hL hR next
      by_cases h5 : y = 5
      · refine lv_tableIn (tgt := 357) (off := 324) hx hb dL_law_33 (by rw [h5]; decide) (by rw [h5]; decide) (by rw [h5]; rfl) (by decide) ?_
        exact case_5 X hEX hX hbl hL2 hcs hi6 hl hL hR next
      by_cases h6 : y = 6
      · refine lv_tableIn (tgt := 390) (off := 357) hx hb dL_law_33 (by rw [h6]; decide) (by rw [h6]; decide) (by rw [h6]; rfl) (by decide) ?_
        exact case_6 X hEX hX hbl hL2 hcs hi6 hl hL hR next
      by_cases h7 : y = 7
      · refine lv_tableIn (tgt := 439) (off := 406) hx hb dL_law_33 (by rw [h7]; decide) (by rw [h7]; decide) (by rw [h7]; rfl) (by decide) ?_
        exact case_7 X hEX hX hbl hL2 hcs hi6 hl hL hR next
      by_cases h8 : y = 8
      · refine lv_tableIn (tgt := 462) (off := 429) hx hb dL_law_33 (by rw [h8]; decide) (by rw [h8]; decide) (by rw [h8]; rfl) (by decide) ?_
        exact case_8 X hEX hX hbl hL2 hcs hi6 hl hL hR next
      by_cases h9 : y = 9
      · refine lv_tableIn (tgt := 495) (off := 462) hx hb dL_law_33 (by rw [h9]; decide) (by rw [h9]; decide) (by rw [h9]; rfl) (by decide) ?_
        exact case_9 X hEX hX hbl hL2 hcs hi6 hl hL hR next
      by_cases h10 : y = 10
      · refine lv_tableIn (tgt := 518) (off := 485) hx hb dL_law_33 (by rw [h10]; decide) (by rw [h10]; decide) (by rw [h10]; rfl) (by decide) ?_
        exact case_10 X hEX hX hbl hL2 hcs hi6 hl hL hR next
      by_cases h11 : y = 11
      · refine lv_tableIn (tgt := 541) (off := 508) hx hb dL_law_33 (by rw [h11]; decide) (by rw [h11]; decide) (by rw [h11]; rfl) (by decide) ?_
        exact case_11 X hEX hX hbl hL2 hcs hi6 hl hL hR next
      by_cases h12 : y = 12
      · refine lv_tableIn (tgt := 554) (off := 521) hx hb dL_law_33 (by rw [h12]; decide) (by rw [h12]; decide) (by rw [h12]; rfl) (by decide) ?_
        exact case_12 X hEX hX hbl hL2 hcs hi6 hl hL hR next
      by_cases h13 : y = 13
      · refine lv_tableIn (tgt := 587) (off := 554) hx hb dL_law_33 (by rw [h13]; decide) (by rw [h13]; decide) (by rw [h13]; rfl) (by decide) ?_
        exact case_13 X hEX hX hbl hL2 hcs hi6 hl hL hR next
      by_cases h14 : y = 14
      · refine lv_tableIn (tgt := 620) (off := 587) hx hb dL_law_33 (by rw [h14]; decide) (by rw [h14]; decide) (by rw [h14]; rfl) (by decide) ?_
        exact case_14 X hEX hX hbl hL2 hcs hi6 hl hL hR next
      by_cases h15 : y = 15
      · refine lv_tableIn (tgt := 633) (off := 600) hx hb dL_law_33 (by rw [h15]; decide) (by rw [h15]; decide) (by rw [h15]; rfl) (by decide) ?_
        exact case_15 X hEX hX hbl hL2 hcs hi6 hl hL hR next
      by_cases h16 : y = 16
      · refine lv_tableIn (tgt := 666) (off := 633) hx hb dL_law_33 (by rw [h16]; decide) (by rw [h16]; decide) (by rw [h16]; rfl) (by decide) ?_
        exact case_16 X hEX hX hbl hL2 hcs hi6 hl hL hR next
      by_cases h17 : y = 17
      · refine lv_tableIn (tgt := 689) (off := 656) hx hb dL_law_33 (by rw [h17]; decide) (by rw [h17]; decide) (by rw [h17]; rfl) (by decide) ?_
        exact case_17 X hEX hX hbl hL2 hcs hi6 hl hL hR next
      by_cases h18 : y = 18
      · refine lv_tableIn (tgt := 702) (off := 669) hx hb dL_law_33 (by rw [h18]; decide) (by rw [h18]; decide) (by rw [h18]; rfl) (by decide) ?_
        exact case_18 X hEX hX hbl hL2 hcs hi6 hl hL hR next
      by_cases h19 : y = 19
      · refine lv_tableIn (tgt := 725) (off := 692) hx hb dL_law_33 (by rw [h19]; decide) (by rw [h19]; decide) (by rw [h19]; rfl) (by decide) ?_
        exact case_19 X hEX hX hbl hL2 hcs hi6 hl hL hR next
      by_cases h20 : y = 20
      · refine lv_tableIn (tgt := 748) (off := 715) hx hb dL_law_33 (by rw [h20]; decide) (by rw [h20]; decide) (by rw [h20]; rfl) (by decide) ?_
        exact case_20 X hEX hX hbl hL2 hcs hi6 hl hL hR next
      by_cases h21 : y = 21
      · refine lv_tableIn (tgt := 781) (off := 748) hx hb dL_law_33 (by rw [h21]; decide) (by rw [h21]; decide) (by rw [h21]; rfl) (by decide) ?_
        exact case_21 X hEX hX hbl hL2 hcs hi6 hl hL hR next
      by_cases h22 : y = 22
      · refine lv_tableIn (tgt := 804) (off := 771) hx hb dL_law_33 (by rw [h22]; decide) (by rw [h22]; decide) (by rw [h22]; rfl) (by decide) ?_
        exact case_22 X hEX hX hbl hL2 hcs hi6 hl hL hR next
      by_cases h23 : y = 23
      · refine lv_tableIn (tgt := 837) (off := 804) hx hb dL_law_33 (by rw [h23]; decide) (by rw [h23]; decide) (by rw [h23]; rfl) (by decide) ?_
        exact case_23 X hEX hX hbl hL2 hcs hi6 hl hL hR next
      by_cases h24 : y = 24
      · refine lv_tableIn (tgt := 850) (off := 817) hx hb dL_law_33 (by rw [h24]; decide) (by rw [h24]; decide) (by rw [h24]; rfl) (by decide) ?_
        exact case_24 X hEX hX hbl hL2 hcs hi6 hl hL hR next
      by_cases h25 : y = 25
      · refine lv_tableIn (tgt := 873) (off := 840) hx hb dL_law_33 (by rw [h25]; decide) (by rw [h25]; decide) (by rw [h25]; rfl) (by decide) ?_
        exact case_25 X hEX hX hbl hL2 hcs hi6 hl hL hR next
      by_cases h26 : y = 26
      · refine lv_tableIn (tgt := 896) (off := 863) hx hb dL_law_33 (by rw [h26]; decide) (by rw [h26]; decide) (by rw [h26]; rfl) (by decide) ?_
        exact case_26 X hEX hX hbl hL2 hcs hi6 hl hL hR next
      by_cases h27 : y = 27
      · refine lv_tableIn (tgt := 909) (off := 876) hx hb dL_law_33 (by rw [h27]; decide) (by rw [h27]; decide) (by rw [h27]; rfl) (by decide) ?_
        exact case_27 X hEX hX hbl hL2 hcs hi6 hl hL hR next
      by_cases h28 : y = 28
      · refine lv_tableIn (tgt := 932) (off := 899) hx hb dL_law_33 (by rw [h28]; decide) (by rw [h28]; decide) (by rw [h28]; rfl) (by decide) ?_
        exact case_28 X hEX hX hbl hL2 hcs hi6 hl hL hR next
      by_cases h29 : y = 29
      · refine lv_tableIn (tgt := 955) (off := 922) hx hb dL_law_33 (by rw [h29]; decide) (by rw [h29]; decide) (by rw [h29]; rfl) (by decide) ?_
        exact case_29 X hEX hX hbl hL2 hcs hi6 hl hL hR next
      by_cases h30 : y = 30
      · refine lv_tableIn (tgt := 978) (off := 945) hx hb dL_law_33 (by rw [h30]; decide) (by rw [h30]; decide) (by rw [h30]; rfl) (by decide) ?_
        exact case_30 X hEX hX hbl hL2 hcs hi6 hl hL hR next
      by_cases h31 : y = 31
      · refine lv_tableIn (tgt := 1001) (off := 968) hx hb dL_law_33 (by rw [h31]; decide) (by rw [h31]; decide) (by rw [h31]; rfl) (by decide) ?_
        exact case_31 X hEX hX hbl hL2 hcs hi6 hl hL hR next
      by_cases h32 : y = 32
      · refine lv_tableIn (tgt := 1024) (off := 991) hx hb dL_law_33 (by rw [h32]; decide) (by rw [h32]; decide) (by rw [h32]; rfl) (by decide) ?_
        exact case_32 X hEX hX hbl hL2 hcs hi6 hl hL hR next
      by_cases h33 : y = 33
      · refine lv_tableIn (tgt := 1067) (off := 1034) hx hb dL_law_33 (by rw [h33]; decide) (by rw [h33]; decide) (by rw [h33]; rfl) (by decide) ?_
        exact case_33 X hEX hX hbl hL2 hcs hi6 hl hL hR next
      by_cases h34 : y = 34
      · refine lv_tableIn (tgt := 1110) (off := 1077) hx hb dL_law_33 (by rw [h34]; decide) (by rw [h34]; decide) (by rw [h34]; rfl) (by decide) ?_
        exact case_34 X hEX hX hbl hL2 hcs hi6 hl hL hR next
      by_cases h35 : y = 35
      · refine lv_tableIn (tgt := 1169) (off := 1136) hx hb dL_law_33 (by rw [h35]; decide) (by rw [h35]; decide) (by rw [h35]; rfl) (by decide) ?_
        exact case_35 X hEX hX hbl hL2 hcs hi6 hl hL hR next
      by_cases h36 : y = 36
      · refine lv_tableIn (tgt := 1182) (off := 1149) hx hb dL_law_33 (by rw [h36]; decide) (by rw [h36]; decide) (by rw [h36]; rfl) (by decide) ?_
        exact case_36 X hEX hX hbl hL2 hcs hi6 hl hL hR next
      by_cases h37 : y = 37
      · refine lv_tableIn (tgt := 1215) (off := 1182) hx hb dL_law_33 (by rw [h37]; decide) (by rw [h37]; decide) (by rw [h37]; rfl) (by decide) ?_
        exact case_37 X hEX hX hbl hL2 hcs hi6 hl hL hR next
      by_cases h38 : y = 38
      · refine lv_tableIn (tgt := 1248) (off := 1215) hx hb dL_law_33 (by rw [h38]; decide) (by rw [h38]; decide) (by rw [h38]; rfl) (by decide) ?_
        exact case_38 X hEX hX hbl hL2 hcs hi6 hl hL hR next
      by_cases h39 : y = 39
      · refine lv_tableIn (tgt := 1271) (off := 1238) hx hb dL_law_33 (by rw [h39]; decide) (by rw [h39]; decide) (by rw [h39]; rfl) (by decide) ?_
        exact case_39 X hEX hX hbl hL2 hcs hi6 hl hL hR next
      by_cases h40 : y = 40
      · refine lv_tableIn (tgt := 1294) (off := 1261) hx hb dL_law_33 (by rw [h40]; decide) (by rw [h40]; decide) (by rw [h40]; rfl) (by decide) ?_
        exact case_40 X hEX hX hbl hL2 hcs hi6 hl hL hR next
      have h0 := ne_ti (z := 0) h0 (by decide)
      have h1 := ne_ti (z := 1) h1 (by decide)
      have h2 := ne_ti (z := 2) h2 (by decide)
      have h3 := ne_ti (z := 3) h3 (by decide)
      have h4 := ne_ti (z := 4) h4 (by decide)
      have h5 := ne_ti (z := 5) h5 (by decide)
      have h6 := ne_ti (z := 6) h6 (by decide)
      have h7 := ne_ti (z := 7) h7 (by decide)
      have h8 := ne_ti (z := 8) h8 (by decide)
      have h9 := ne_ti (z := 9) h9 (by decide)
      have h10 := ne_ti (z := 10) h10 (by decide)
      have h11 := ne_ti (z := 11) h11 (by decide)
      have h12 := ne_ti (z := 12) h12 (by decide)
      have h13 := ne_ti (z := 13) h13 (by decide)
      have h14 := ne_ti (z := 14) h14 (by decide)
      have h15 := ne_ti (z := 15) h15 (by decide)
      have h16 := ne_ti (z := 16) h16 (by decide)
      have h17 := ne_ti (z := 17) h17 (by decide)
      have h18 := ne_ti (z := 18) h18 (by decide)
      have h19 := ne_ti (z := 19) h19 (by decide)
      have h20 := ne_ti (z := 20) h20 (by decide)
      have h21 := ne_ti (z := 21) h21 (by decide)
      have h22 := ne_ti (z := 22) h22 (by decide)
      have h23 := ne_ti (z := 23) h23 (by decide)
      have h24 := ne_ti (z := 24) h24 (by decide)
      have h25 := ne_ti (z := 25) h25 (by decide)
      have h26 := ne_ti (z := 26) h26 (by decide)
      have h27 := ne_ti (z := 27) h27 (by decide)
      have h28 := ne_ti (z := 28) h28 (by decide)
      have h29 := ne_ti (z := 29) h29 (by decide)
      have h30 := ne_ti (z := 30) h30 (by decide)
      have h31 := ne_ti (z := 31) h31 (by decide)
      have h32 := ne_ti (z := 32) h32 (by decide)
      have h33 := ne_ti (z := 33) h33 (by decide)
      have h34 := ne_ti (z := 34) h34 (by decide)
      have h35 := ne_ti (z := 35) h35 (by decide)
      have h36 := ne_ti (z := 36) h36 (by decide)
      have h37 := ne_ti (z := 37) h37 (by decide)
      have h38 := ne_ti (z := 38) h38 (by decide)
      have h39 := ne_ti (z := 39) h39 (by decide)
      have h40 := ne_ti (z := 40) h40 (by decide)
      refine lv_tableOut (tgt := 1317) hx hb dL_law_33 (by omega) (by decide) ?_
      exact next H μ ν hL hR
set_option maxHeartbeats 8000000 in
set_option maxRecDepth 100000 in
theorem whole_start {p : Program} {e : Env} {s : State} {m : MethodId} {below : List Frame} {meth : Method} {c : Code} (l : Launch) (_hflags : l.flags = flags0) {b L : Nat} {xs : Nat → Int32} (hL : L ≤ 3072) (C0 : lw_At p s m meth c b L xs) : W p l e room_1 s m #[Value.ref b] below meth c s.heap [] 0 0 (lw_Z below #[Value.ref b] s) (entryFrame m ([Value.ref b] : List Value).toArray 4) := by
  obtain ⟨hx, hb, hr, hml, hown, hts, hX, hbl, hlocks, hgv⟩ := C0
  obtain ⟨G, hK, hKX⟩ := KG_start hts
  obtain ⟨X, hEF⟩ := EF_start hts hgv
  have hok : Eok s.heap.size (EE X G s.heap.size) := Eok_EE
  have hEs : EE X G s.heap.size s := ⟨hEF, hKX⟩
  have hE : ∀ U, EE X G s.heap.size U → KX G U := fun U h => h.2
  have hEX : ∀ U, EE X G s.heap.size U → EF X (fun q => s.heap.size ≤ q) U := fun U h => h.1
  have htg : ∀ w ∈ tblG, w.before #[Value.ref b] s = true := fun w hw => hts w (List.mem_filter.mp hw).1
  obtain ⟨B, hB⟩ : ∃ B, s.heap.size = B + 1 := ⟨s.heap.size - 1, by omega⟩
  rw [hB] at hok hEs hE hEX
  generalize EE X G (B + 1) = E at hok hEs hE hEX
  have XX : LX G B E p s m #[Value.ref b] c := ⟨hx, hb, hml, hown, htg, hK, hEs, hok, hB⟩
  obtain ⟨μ0, ν0, e1, e2, hR⟩ := r_init (fun _ _ => 0, fun _ _ => 0) (fun _ _ => 0, fun _ _ => 0)
  have hl := lv_entry ([.ref b]) (n := 4) (Nat.le_of_ble_eq_true rfl)
  rw [lg_entry_eq]
  generalize (lg_sl ([.ref b]) ++ List.replicate (4 - (lg_sl ([.ref b])).length) Slot.unset).toArray = ls at hl ⊢
  have hl : lv_has ls 4 [(0, .ref b)] := hl
  have C : Cx (ωk G DSC B 1 1 E (fun _ _ => false)) p s m #[Value.ref b] c code 4 RL := ⟨hx, hb, hml, hown, htg, hK, hEs, wok_k hok⟩
  have hH : Hd (ωk G DSC B 1 1 E (fun _ _ => false)) (fun _ _ => 0, fun _ _ => 0) s.heap := fun j t n hv _ => by have hv : 1 ≤ j ∧ j < 1 := hv; omega
  have hS : FS (ωk G DSC B 1 1 E (fun _ _ => false)) s s.heap [] := FS.rf hB
  refine k_new (N' := ch 1 (fun _ _ => false)) (ty := tyX11) (r := (RX11, TX11, 17)) (rest := []) C hH hS (Nat.le_refl _) rfl (by decide) rfl tyX11_ok (by decide +kernel) (fun k => ch_eq) (fun j k hj => ch_ne (Nat.ne_of_lt hj)) wd_119 wd_120 wd_98 (by decide) (Nat.le_of_ble_eq_true rfl) dL_law_0 (fun H hH hS => ?_)
  refine lv_dup hx hb dL_law_3 rfl ?_
  refine k_init (as := []) (rest := [.ref (B + 1)]) (N' := fun _ _ => false) (i_X11 hE hEX e1) hok (Cx.ofk hok C) hl.1 (Nat.le_refl _) hH (fun k => ch_eq) (fun j k hj => (ch_ne (N := fun _ _ => false) (Nat.ne_of_lt hj)).symm) (fun _ _ _ => rfl) hS rfl mw_X11_init rfl wd_122 wd_121 rfl ⟨by decide, by decide⟩ (Nat.le_of_ble_eq_true rfl) ⟨by decide, by decide⟩ dL_law_4 (fun H locs hH hS => ?_)
  have hH : Hd (ωk G DSC B 1 191 E (fun _ _ => false)) μ0 H := fun j t n hv hd => by
    have hv2 : 1 ≤ j ∧ j < 191 := hv
    exact (hH j t n hv hd).same (mg_hi hv2.1).1.symm (mg_hi hv2.1).2.symm
  have hz : H.size = B + 191 := hS.2
  have hlow : ∀ q, q < B + 1 → H[q]? = s.heap[q]? := fun q hq => hS.1.2.1 q (by omega) (fun z => by have z : B + 1 ≤ q := z; omega)
  refine va_forget (fun q hq => by have h9 : B + 1 ≤ q.base := hS.1.2.2 q hq; omega) ?_
  refine lv_astore_n (lv' := [(1, .ref (B + 1)), (0, .ref b)]) hx hb dL_law_7 rfl hl (by decide) rfl (fun ls hl => ?_)
  have hok2 : Eok (B + 191 + 0) E := fun u U h1 h2 h3 => hok u U h1 h2 (fun q hq hqB => h3 q hq (by omega))
  have C2 : Cx (ωk G DSM (B + 191) 0 0 E (fun _ _ => false)) p s m #[Value.ref b] c code 4 RL := ⟨hx, hb, hml, hown, htg, hK, hEs, wok_k hok2⟩
  have hH2 : Hd (ωk G DSM (B + 191) 0 0 E (fun _ _ => false)) (fun _ _ => 0, fun _ _ => 0) H := fun j t n hv _ => absurd hv.2 (Nat.not_lt_zero _)
  have hS2 : FS (ωk G DSM (B + 191) 0 0 E (fun _ _ => false)) s H [] := ⟨⟨by omega, fun q h1 h2 => hlow q (by omega), fun _ h => by cases h⟩, hz⟩
  refine k_newL (N' := ch 0 (fun _ _ => false)) (ty := tyX12) (r := (RX12, TX12, 69)) (rest := []) C2 hH2 hS2 (Nat.le_refl _) rfl (by decide) rfl tyX12_ok (by decide +kernel) (fun k => ch_eq) (fun j k hj => absurd hj (Nat.not_lt_zero _)) wd_1159 wd_1160 wd_114 (by decide) (Nat.le_of_ble_eq_true rfl) dL_law_8 (fun H2 hH2 hS2 hk2 => ?_)
  refine lv_dup hx hb dL_law_11 rfl ?_
  refine k_initL (as := []) (rest := [.ref (B + 191 + 0)]) (N' := fun _ _ => false) (i_X12 hE e2) hok2 (Cx.ofk hok2 C2) hl.1 (Nat.le_refl _) hH2 (fun k => ch_eq) (fun j k hj => absurd hj (Nat.not_lt_zero _)) (fun _ _ _ => rfl) hS2 rfl mw_X12_init rfl wd_1162 wd_1161 rfl ⟨by decide, by decide⟩ (Nat.le_of_ble_eq_true rfl) ⟨by decide, by decide⟩ dL_law_12 (fun H3 locs hH3 hS3 hk3 => ?_)
  have hLI : LI G B E s μ0 ν0 H3 := ⟨(fun j t n hv hd => by
      have hv : 1 ≤ j ∧ j < 191 := hv
      have h9 : cell_at G B (fun _ _ => false) μ0 j t n H := hH j t n hv hd
      exact h9.kept ((hk3 _ (by omega)).trans (hk2 _ (by omega)))), fun j t n hv hd => (hH3 j t n hv hd).same (mg_hi (Nat.zero_le _)).1.symm (mg_hi (Nat.zero_le _)).2.symm, hS3.2, fun q hq => ((hk3 q (by omega)).trans (hk2 q (by omega))).trans (hlow q hq)⟩
  refine va_forget (fun q hq => by have h9 : B + 191 + 0 ≤ q.base := hS3.1.2.2 q hq; omega) ?_
  refine lv_astore_n (lv' := [(2, .ref (B + 191 + 0)), (1, .ref (B + 1)), (0, .ref b)]) hx hb dL_law_15 rfl hl (by decide) rfl (fun ls hl => ?_)
  refine lv_iconst (v := 0) hx hb dL_law_16 (by decide) ?_
  refine lv_istore_n (lv' := [(3, .int 0), (2, .ref (B + 191 + 0)), (1, .ref (B + 1)), (0, .ref b)]) hx hb dL_law_17 rfl hl (by decide) rfl (fun ls hl => ?_)
  refine W.widen (k := 600000) (n := 7302250) (Nat.le_of_ble_eq_true rfl) (Nat.le_of_ble_eq_true rfl) ?_
  exact law_loop XX hr hlocks hEX hX hbl hL (L + 7) 0 H3 μ0 ν0 ls (by omega) (by omega) hl hLI hR
