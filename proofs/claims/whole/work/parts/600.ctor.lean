/-! ===== constructors: a world that grows ===== -/
def zr (μ : Mem) (i : Nat) : Mem := (va_up μ.1 i (fun _ => 0), va_up μ.2 i (fun _ => 0))
theorem zr_ne {μ : Mem} {i j : Nat} (h : j ≠ i) : (zr μ i).1 j = μ.1 j ∧ (zr μ i).2 j = μ.2 j := ⟨by show va_up _ _ _ j = _; unfold va_up; rw [if_neg h], by show va_up _ _ _ j = _; unfold va_up; rw [if_neg h]⟩
theorem zr_eq {μ : Mem} {i : Nat} : (zr μ i).1 i = (fun _ => 0) ∧ (zr μ i).2 i = (fun _ => 0) := ⟨by show va_up _ _ _ i = _; unfold va_up; rw [if_pos rfl], by show va_up _ _ _ i = _; unfold va_up; rw [if_pos rfl]⟩
/-- memory of the cells below i, and of those from i on -/
def mg (i : Nat) (μ ν : Mem) : Mem := (fun j => if j < i then μ.1 j else ν.1 j, fun j => if j < i then μ.2 j else ν.2 j)
theorem mg_lo {i j : Nat} {μ ν : Mem} (h : j < i) : (mg i μ ν).1 j = μ.1 j ∧ (mg i μ ν).2 j = μ.2 j := ⟨if_pos h, if_pos h⟩
theorem mg_hi {i j : Nat} {μ ν : Mem} (h : i ≤ j) : (mg i μ ν).1 j = ν.1 j ∧ (mg i μ ν).2 j = ν.2 j := ⟨if_neg (Nat.not_lt.mpr h), if_neg (Nat.not_lt.mpr h)⟩
/-- cells from i on, so many, are zero -/
def zrs (μ : Mem) (i n : Nat) : Mem := (fun j => if i ≤ j ∧ j < i + n then fun _ => 0 else μ.1 j, fun j => if i ≤ j ∧ j < i + n then fun _ => 0 else μ.2 j)
def nf (i : Nat) (Rem : List Nat) : Nat → Nat → Bool := fun j k => (j == i) && Rem.contains k
def KX (G : GG) (U : State) : Prop := (∀ t, 100 ≤ t → t ≤ 105 → U.vm.findClass ("[" ++ (tyT t).toString) = some (G.2.2 t)) ∧ va_AO "SummerHouses$State" U ∧ (Cond.arrayOver (.array .int)).before #[] U = true
def ωk (G : GG) (DS : List (Nat × Nat)) (B lo hi : Nat) (E : State → Prop) (N : Nat → Nat → Bool) : WW := (G, DS, B, fun j => lo ≤ j ∧ j < hi, fun q => B + lo ≤ q, E, B + hi, N)
/-- what the outside facts must bear -/
def Eok (B : Nat) (E : State → Prop) : Prop := ∀ u U : State, E u → (u.WarmedH U.vm ∨ U.vm = u.vm) → (∀ q : Nat, q < u.heap.size → q < B → U.heap[q]? = u.heap[q]?) → E U
theorem Eok.up {K K' : Nat} {E : State → Prop} (h : Eok K E) (hk : K ≤ K') : Eok K' E := fun u U a b c => h u U a b (fun q d e => c q d (Nat.lt_of_lt_of_le e hk))
theorem wok_k {G : GG} {DS : List (Nat × Nat)} {B lo hi : Nat} {E : State → Prop} {N : Nat → Nat → Bool} (h : Eok (B + lo) E) : wok (ωk G DS B lo hi E N) :=
  ⟨fun j _ _ hv _ => Nat.add_le_add_left hv.1 B, fun u U h1 h2 h3 => h u U h1 h2 (fun q hq hB => h3 q hq (fun z => by have z : B + lo ≤ q := z; omega))⟩
theorem cell_at.mask {G : GG} {B : Nat} {N N' : Nat → Nat → Bool} {μ : Mem} {j t n : Nat} {H : Heap} (h : cell_at G B N μ j t n H) (e : ∀ k, N' j k = N j k) : cell_at G B N' μ j t n H := by
  have ef : fv B N' μ j t = fv B N μ j t := by funext k; simp only [fv, e]
  have ea : av B N' μ j t = av B N μ j t := by funext k; simp only [av, e]
  exact ⟨fun ht => by rw [ef]; exact h.1 ht, fun ht => by rw [ea]; exact h.2 ht⟩
/-- of an object the mask counts at references alone -/
theorem cell_at.maskO {G : GG} {B : Nat} {N N' : Nat → Nat → Bool} {μ : Mem} {j t n : Nat} {H : Heap} (h : cell_at G B N μ j t n H) (ht : t < 100) (e : ∀ k, FT t k ≠ 0 → N' j k = N j k) : cell_at G B N' μ j t n H := by
  have ef : fv B N' μ j t = fv B N μ j t := by
    funext k
    by_cases hk : FT t k = 0
    · simp only [fv, hk, if_true]
    · simp only [fv, hk, e k hk]
  exact ⟨fun ht => by rw [ef]; exact h.1 ht, fun h2 => absurd ht (Nat.not_lt.mpr h2)⟩
/-! ===== new int[n][k], over the model's own words ===== -/
def gR (h i : Nat) : Nat → Value := fun r => if r < i then .ref (h + 1 + r) else .null
/-- behind i of the n rows -/
def gF (T : State) (cA cI : ClassId) (n k : Nat) : Nat → State
  | 0 => T.pushCell (arrV cA n (gR T.heap.size 0))
  | i + 1 => ((gF T cA cI n k i).pushCell (arrV cI k (fun _ => .int 0))).setCell T.heap.size (arrV cA n (gR T.heap.size (i + 1)))
def MI (h0 : Heap) (cA cI : ClassId) (n k i : Nat) (H : Heap) : Prop := H.size = h0.size + 1 + i ∧ (∀ q : Nat, q < h0.size → H[q]? = h0[q]?) ∧ H[h0.size]? = some (arrV cA n (gR h0.size i)) ∧ ∀ r, r < i → H[h0.size + 1 + r]? = some (arrV cI k (fun _ => .int 0))
theorem hp_lt {U : State} {x : Cell} {a : Nat} (h : a < U.heap.size) : (U.pushCell x).heap[a]? = U.heap[a]? := State.heap_pushCell_of_lt U x h
theorem hp_sz {U : State} {x : Cell} : (U.pushCell x).heap.size = U.heap.size + 1 := State.heap_size_pushCell U x
theorem hp_at {U : State} {x : Cell} : (U.pushCell x).heap[U.heap.size]? = some x := State.heap_pushCell_size U x
theorem hs_at {U : State} {a : Nat} {x : Cell} (h : a < U.heap.size) : (U.setCell a x).heap[a]? = some x := heapAt_setCell_self x h
theorem hs_ne {U : State} {a b : Nat} {x : Cell} (h : a ≠ b) : (U.setCell a x).heap[b]? = U.heap[b]? := heapAt_setCell_ne x h
theorem gR_set (cA : ClassId) (n h i : Nat) : (arrV cA n (gR h i)).setSlot i (.ref (h + 1 + i)) = arrV cA n (gR h (i + 1)) := by
  rw [arrV_store]
  congr 1
  funext r
  unfold updV gR
  by_cases e : r = i
  · rw [if_pos e, if_pos (by omega), e]
  · rw [if_neg e]
    by_cases c : r < i
    · rw [if_pos c, if_pos (by omega)]
    · rw [if_neg c, if_neg (by omega)]
theorem gF_MI (T : State) (cA cI : ClassId) (n k : Nat) : ∀ i, MI T.heap cA cI n k i (gF T cA cI n k i).heap ∧ (gF T cA cI n k i).vm = T.vm
  | 0 => ⟨⟨hp_sz, fun q hq => hp_lt hq, hp_at, fun r hr => absurd hr (Nat.not_lt_zero _)⟩, rfl⟩
  | i + 1 => by
    obtain ⟨⟨a1, a2, a3, a4⟩, a5⟩ := gF_MI T cA cI n k i
    unfold gF
    generalize gF T cA cI n k i = U at a1 a2 a3 a4 a5
    have z : (U.pushCell (arrV cI k (fun _ => .int 0))).heap.size = T.heap.size + 1 + i + 1 := by rw [hp_sz, a1]
    refine ⟨⟨by rw [size_setCell, z]; omega, fun q hq => ?_, hs_at (by omega), fun r hr => ?_⟩, a5⟩
    · rw [hs_ne (by omega), hp_lt (by omega)]
      exact a2 q hq
    · rw [hs_ne (by omega)]
      by_cases e : r = i
      · subst e
        rw [← a1]
        exact hp_at
      · rw [hp_lt (by omega)]
        exact a4 r (by omega)
theorem gF_top (T : State) (f : JFrame) (cA cI : ClassId) (n k : Nat) : ∀ i, gF (T.setTop f) cA cI n k i = (gF T cA cI n k i).setTop f
  | 0 => rfl
  | i + 1 => by
    unfold gF
    rw [gF_top T f cA cI n k i]
    rfl
section MN
variable {p : Program} {l : Launch} {e : Env} {R : Room} {s : State} {m : MethodId} {args : Array Value} {below : List Frame} {meth : Method} {c : Code} {locs : List Loc} {cells slots : Nat} {Q : State → Prop}
theorem gF_St {T : State} (X : Stand p l e R s m args below meth c T locs cells slots) (cA cI : ClassId) (n k : Nat) : ∀ i, Stand p l e R s m args below meth c (gF T cA cI n k i) locs (cells + 1 + i) (slots + n + i * k)
  | 0 => by
    have h := X.pushed (arrV cA n (gR T.heap.size 0))
    rw [arrV_size] at h
    rw [Nat.zero_mul]
    exact h
  | i + 1 => by
    have h := (gF_St X cA cI n k i).pushed (arrV cI k (fun _ => .int 0))
    rw [arrV_size] at h
    obtain ⟨⟨a1, a2, a3, a4⟩, a5⟩ := gF_MI T cA cI n k i
    have hc : ((gF T cA cI n k i).pushCell (arrV cI k (fun _ => .int 0))).heap[T.heap.size]? = some (arrV cA n (gR T.heap.size i)) := by rw [hp_lt (by omega)]; exact a3
    have h2 := h.stored hc i (.ref (T.heap.size + 1 + i))
    rw [gR_set] at h2
    rw [show slots + n + (i + 1) * k = slots + n + i * k + k by rw [Nat.succ_mul]; omega]
    exact h2.dropFresh (fun x hx => by rw [List.mem_singleton.mp hx]; exact X.heapGrown)
end MN
section MW
variable {E0 : CtlPost} {e : Env} {d : Bool} {acts : List Action} {S : State}
theorem mn_fit {ci co : ClassId} {kc : Class} {ty : FieldType} {i : Nat} {v : Value} (hk : S.vm.classes[ci]? = some kc) (hkind : kc.kind = .array co ty) (hv : fits ty v = true) : S.fitsSlot ci .none i v = true := by
  simp only [State.fitsSlot, State.slotType?, hk, hkind, Option.bind_eq_bind, Option.bind_some]
  exact hv
/-- an array made -/
theorem mn_new {ci co : ClassId} {kc : Class} {ty : FieldType} {len : Nat} {v : Value} {Q : Addr → Pre} (hk : S.vm.classes[ci]? = some kc) (hkind : kc.kind = .array co ty) (h1 : ¬ len > e.platform.arrayLengthLimit) (h2 : ¬ len * componentBytes ty > e.platform.maxHeapBytes) (hv : fits ty v = true) (h3 : S.heap.size < e.platform.maxCells) (h4 : S.slotsUsed + len ≤ e.platform.maxSlots) (hq : ∀ acts', Q S.heap.size d acts' (S.pushCell (arrV ci len (fun _ => v)))) : wp (Jvm.newArray ci len v) Q E0 e d acts S := by
  simp only [Jvm.newArray, Jvm.arrayFits, wp_bind', Jvm.W.ask, Jvm.W.ite, h1, if_false, wp_pure', Jvm.W.theClass, hk, hkind, h2, Jvm.W.alloc, Jvm.W.stop, Option.some.injEq, exists_eq_left', Array.size_replicate]
  rw [if_neg (by omega)]
  refine ⟨h3, h4, fun i w hw => ?_, ?_⟩
  · rw [Array.getElem?_replicate] at hw
    by_cases c : i < len
    · rw [if_pos c] at hw
      cases hw
      exact mn_fit hk hkind hv
    · rw [if_neg c] at hw
      cases hw
  · rw [arrV_new]
    exact hq _
/-- a row -/
theorem mn_row {ci co : ClassId} {kc : Class} {k : Int32} {Q : Addr → Pre} (hk : S.vm.classes[ci]? = some kc) (hkind : kc.kind = .array co .int) (h0 : ¬ k < 0) (h1 : ¬ k.toNatClampNeg > e.platform.arrayLengthLimit) (h2 : ¬ k.toNatClampNeg * componentBytes .int > e.platform.maxHeapBytes) (h3 : S.heap.size < e.platform.maxCells) (h4 : S.slotsUsed + k.toNatClampNeg ≤ e.platform.maxSlots) (hq : ∀ acts', Q S.heap.size d acts' (S.pushCell (arrV ci k.toNatClampNeg (fun _ => .int 0)))) : wp (multianewarray.make ci [k]) Q E0 e d acts S := by
  rw [multianewarray.make]
  simp only [wp_bind', Jvm.W.ite, h0, if_false, wp_pure', Jvm.W.theClass, hk, hkind, Option.some.injEq, exists_eq_left']
  exact mn_new hk hkind h1 h2 rfl h3 h4 hq
/-- all of it -/
theorem mn_all {cA cI co : ClassId} {kA kI : Class} {n k : Int32} {Q : Addr → Pre} (hA : S.vm.classes[cA]? = some kA) (hkA : kA.kind = .array cI (.array .int)) (hI : S.vm.classes[cI]? = some kI) (hkI : kI.kind = .array co .int) (n0 : ¬ n < 0) (k0 : ¬ k < 0) (n1 : ¬ n.toNatClampNeg > e.platform.arrayLengthLimit) (n2 : ¬ n.toNatClampNeg * componentBytes (.array .int) > e.platform.maxHeapBytes) (k1 : ¬ k.toNatClampNeg > e.platform.arrayLengthLimit) (k2 : ¬ k.toNatClampNeg * componentBytes .int > e.platform.maxHeapBytes)
    (rc : S.heap.size < e.platform.maxCells) (rs : S.slotsUsed + n.toNatClampNeg ≤ e.platform.maxSlots) (rr : ∀ i, i < n.toNatClampNeg → (gF S cA cI n.toNatClampNeg k.toNatClampNeg i).heap.size < e.platform.maxCells ∧ (gF S cA cI n.toNatClampNeg k.toNatClampNeg i).slotsUsed + k.toNatClampNeg ≤ e.platform.maxSlots) (hq : ∀ d' acts', Q S.heap.size d' acts' (gF S cA cI n.toNatClampNeg k.toNatClampNeg n.toNatClampNeg)) : wp (multianewarray.make cA [n, k]) Q E0 e d acts S := by
  have hfind : ([k].find? (· < 0)) = none := by simp [k0]
  rw [multianewarray.make]
  simp only [wp_bind', Jvm.W.ite, n0, if_false, wp_pure', Jvm.W.theClass, hA, hkA, Option.some.injEq, exists_eq_left']
  refine mn_new hA hkA n1 n2 rfl rc rs (fun acts1 => ?_)
  simp only [hfind]
  rw [ite_self, wp_bind', Std.Legacy.Range.forIn_eq_forIn_range', show ([:n.toNatClampNeg] : Std.Legacy.Range).size = n.toNatClampNeg by simp [Std.Legacy.Range.size]]
  generalize hN : n.toNatClampNeg = N at rr hq
  refine wp_forIn_inv (fun todo U => ∃ i, todo = List.range' i (N - i) ∧ i ≤ N ∧ U = gF S cA cI N k.toNatClampNeg i) _ _ ⟨0, rfl, Nat.zero_le _, rfl⟩ ?_ ?_
  · rintro x todo U d1 acts2 Q1 ⟨i, h1, h2, rfl⟩ hn
    by_cases hi : i < N
    · rw [show N - i = N - (i + 1) + 1 by omega, List.range'_succ] at h1
      obtain ⟨rfl, rfl⟩ := List.cons.inj h1
      obtain ⟨⟨a1, a2, a3, a4⟩, a5⟩ := gF_MI S cA cI N k.toNatClampNeg x
      obtain ⟨r1, r2⟩ := rr x hi
      simp only [wp_bind']
      refine mn_row (by rw [a5]; exact hI) hkI k0 k1 k2 r1 r2 (fun acts3 => ?_)
      simp only [wp_bind', Jvm.W.writeLoc, wp_pure']
      refine ⟨arrV cA N (gR S.heap.size x), by rw [hp_lt (by omega)]; exact a3, (fun h => by cases h), by rw [arrV_size]; exact hi, ?_, hn _ _ _ ⟨x + 1, rfl, hi, ?_⟩⟩
      · refine mn_fit (kc := kA) ?_ hkA rfl
        show (gF S cA cI N k.toNatClampNeg x).vm.classes[cA]? = some kA
        rw [a5]; exact hA
      · rw [a1, gR_set]
        rfl
    · rw [show N - i = 0 by omega] at h1
      cases h1
  · rintro U d1 acts2 ⟨i, h1, h2, rfl⟩
    have hi : i = N := by
      by_cases hi : i < N
      · rw [show N - i = N - (i + 1) + 1 by omega, List.range'_succ] at h1
        cases h1
      · omega
    subst hi
    simp only [wp_pure']
    exact hq _ _
end MW
section MX
variable {p : Program} {l : Launch} {e : Env} {R : Room} {s : State} {m : MethodId} {args : Array Value} {below : List Frame} {meth : Method} {c : Code} {H : Heap} {locs : List Loc} {cells slots : Nat} {Q : State → Prop}
theorem w_multi {cc : ByteArray} (hexec : p.tables.exec = Jvm.exec) (hb : c.code = cc) {own : String} {index : Nat} (hown : s.vm.findClass own = some m.cls) (hlk : (Cond.classLink own index ("[" ++ (FieldType.array .int).toString)).before args s = true) (hover : (Cond.arrayOver (.array .int)).before args s = true) (harr : (Cond.arrayClass .int).before args s = true)
    {g : JFrame} (hg : g.method = m) (hdg : decode cc g.pc = .ok (.multianewarray index 2, 4)) {n k : Int32} {rest : List Value} (hst : g.stack = .int k :: .int n :: rest) (hn : ¬ n < 0) (hk : ¬ k < 0) (hb1 : n.toNatClampNeg ≤ 1000) (hb2 : k.toNatClampNeg ≤ 1000) (hcells : cells + (1 + n.toNatClampNeg) ≤ R.cells) (hslots : slots + (n.toNatClampNeg + n.toNatClampNeg * k.toNatClampNeg) ≤ R.slots)
    (kk : ∀ (H1 : Heap) (cA cI : ClassId), s.vm.findClass ("[" ++ (FieldType.array .int).toString) = some cA → s.vm.findClass (FieldType.array .int).toString = some cI → MI H cA cI n.toNatClampNeg k.toNatClampNeg n.toNatClampNeg H1 → W p l e R s m args below meth c H1 locs (cells + 1 + n.toNatClampNeg) (slots + n.toNatClampNeg + n.toNatClampNeg * k.toNatClampNeg) Q { g with pc := g.pc + 4, stack := .ref H.size :: rest }) : W p l e R s m args below meth c H locs cells slots Q g := by
  intro T hT X
  subst hT; subst hb; subst hg
  have hpl : e.platform.magicAccessors = ({} : Platform).magicAccessors := by rw [X.admits.platform]
  obtain ⟨cI, cA, kA, hcI, -, hkA, hkindA, hcA⟩ := arrayOverA_spec hover
  obtain ⟨cI', kI, co, hcI', hkI, hkindI⟩ := Cond.arrayClass_spec harr
  have eI : cI' = cI := Option.some.inj (hcI'.symm.trans hcI)
  subst eI
  obtain ⟨c0, hc0, hcl⟩ := Cond.classLink_spec hown hlk e.platform hpl
  cases hcA.symm.trans hc0
  obtain ⟨hg1, hw1, -⟩ := State.classEntry (e := e) X.warmed hcl
  generalize T.vm.noted g.method.cls index (.cls cA) = vm1 at hg1 hw1
  obtain ⟨kA1, hkA1, eA⟩ := hw1.alike.2.2 _ _ hkA
  obtain ⟨kI1, hkI1, eK⟩ := hw1.alike.2.2 _ _ hkI
  have X1 := X.noted hw1
  have XF := gF_St X1 cA cI' n.toNatClampNeg k.toNatClampNeg
  obtain ⟨t, a1, b1⟩ := kk _ cA cI' hcA hcI (gF_MI (T.setVm vm1) cA cI' n.toNatClampNeg k.toNatClampNeg n.toNatClampNeg).1 _ rfl (XF n.toNatClampNeg)
  refine ⟨t, ?_, b1⟩
  have lim : ∀ x : Nat, x ≤ 1000 → ¬ x > e.platform.arrayLengthLimit := fun x hx => by rw [Launch.admits_arrayLengthLimit X.admits]; omega
  have lib : ∀ x : Nat, x ≤ 1000 → ¬ x * 4 > e.platform.maxHeapBytes := fun x hx => by rw [Launch.admits_maxHeapBytes X.admits]; omega
  have rr : ∀ i, i < n.toNatClampNeg → (gF (T.setVm vm1) cA cI' n.toNatClampNeg k.toNatClampNeg i).heap.size < e.platform.maxCells ∧ (gF (T.setVm vm1) cA cI' n.toNatClampNeg k.toNatClampNeg i).slotsUsed + k.toNatClampNeg ≤ e.platform.maxSlots := fun i hi => by
    have hm : i * k.toNatClampNeg + k.toNatClampNeg ≤ n.toNatClampNeg * k.toNatClampNeg := by
      have := Nat.mul_le_mul_right k.toNatClampNeg (show i + 1 ≤ n.toNatClampNeg from hi)
      rw [Nat.succ_mul] at this
      exact this
    exact (XF i).roomAbove (a := 1) (b := k.toNatClampNeg) (by omega) (by omega)
  obtain ⟨r1, r2⟩ := X1.roomAbove (a := 1) (b := n.toNatClampNeg) (by omega) (by omega)
  jvm_step X.here [hexec, hdg]
  simp only [multianewarray.sem, wp_bind', Jvm.W.resolveClassAt_links (State.method?_setTop g X.here.top) hg1]
  rw [Jvm.W.popN, if_neg (by decide)]
  refine ⟨g, State.topJava?_setTop' (s := T.setVm vm1) g X.here.top, [.int n, .int k], rest, rfl, hst, ?_⟩
  simp only [List.mapM_cons, List.mapM_nil, wp_bind', wp_pure']
  rw [show ((T.setTop g).setVm vm1).setTop { g with stack := rest } = (T.setVm vm1).setTop { g with stack := rest } from State.setTop_setTop (T.setVm vm1) g _]
  refine mn_all (kA := kA1) (kI := kI1) (co := co) hkA1 (by rw [eA]; exact hkindA) hkI1 (by rw [eK]; exact hkindI) hn hk (lim _ hb1) (lib _ hb1) (lim _ hb2) (lib _ hb2) r1 r2 (fun i hi => by rw [gF_top]; exact rr i hi) (fun d1 acts1 => ?_)
  rw [gF_top]
  simp only [wp_bind', Jvm.W.mark, Jvm.W.pushRef, State.topJava?_setTop' _ (XF n.toNatClampNeg).here.top, Option.some.injEq, exists_eq_left', State.setTop_setTop, State.heap_setTop]
  intro acts2
  simp [jvm, (XF n.toNatClampNeg).here.top]
  exact a1
end MX
theorem arr_cg {ci : ClassId} {n : Nat} {f f' : Nat → Value} (h : ∀ j, j < n → f j = f' j) : arrV ci n f = arrV ci n f' := by
  unfold arrV
  congr 1
  exact congrArg _ (funext (fun j => h j.val j.isLt))
section CT
variable {p : Program} {l : Launch} {e : Env} {R : Room} {s : State} {m : MethodId} {args : Array Value} {below : List Frame} {meth : Method} {c : Code} {H : Heap} {locs : List Loc} {cells slots : Nat} {Q : State → Prop}
variable {cc : ByteArray} {pc nL : Nat} {ls : Array Slot} {rest : List Value} {μ : Mem} {own : String}
variable {G : GG} {DS : List (Nat × Nat)} {B lo hi : Nat} {E : State → Prop} {N N' : Nat → Nat → Bool}
theorem Cx.ofk {lo' hi' : Nat} (h : Eok (B + lo') E) (C : Cx (ωk G DS B lo hi E N) p s m args c cc nL own) : Cx (ωk G DS B lo' hi' E N') p s m args c cc nL own := ⟨C.1, C.2.1, C.2.2.1, C.2.2.2.1, C.2.2.2.2.1, C.2.2.2.2.2.1, C.2.2.2.2.2.2.1, wok_k h⟩
theorem Hd.grow {H1 : Heap} {t n : Nat} (hH : Hd (ωk G DS B lo hi E N) μ H) (hl : lo ≤ hi) (o1 : ∀ q, q < B + hi → H1[q]? = H[q]?) (hd : DS[hi]? = some (t, n)) (hc : cell_at G B N' (zr μ hi) hi t n H1) (hN : ∀ j k, j < hi → N' j k = N j k) : Hd (ωk G DS B lo (hi + 1) E N') (zr μ hi) H1 := by
  intro j t' n' hv hd'
  have hv : lo ≤ j ∧ j < hi + 1 := hv
  by_cases e : j = hi
  · subst e
    cases hd.symm.trans hd'
    exact hc
  · have hj : j < hi := by omega
    have h0 : cell_at G B N μ j t' n' H := hH j t' n' ⟨hv.1, hj⟩ hd'
    exact ((h0.same (zr_ne e).1 (zr_ne e).2).mask (fun k => hN j k hj)).kept (o1 _ (by omega))
theorem FS.grow {H1 : Heap} {hi' : Nat} (hS : FS (ωk G DS B lo hi E N) s H locs) (o1 : ∀ q, q < B + hi → H1[q]? = H[q]?) (z1 : H1.size = B + hi') (hh : hi ≤ hi') : FS (ωk G DS B lo hi' E N') s H1 locs := by
  have hz : H.size = B + hi := hS.2
  have h1 : s.heap.size ≤ H.size := hS.1.1
  exact ⟨⟨by omega, fun q g1 g2 => (o1 q (by omega)).trans (hS.1.2.1 q g1 g2), hS.1.2.2⟩, z1⟩
/-- new array of numbers -/
theorem k_newa (hE : ∀ U, E U → KX G U) (C : Cx (ωk G DS B lo hi E N) p s m args c cc nL own) (hH : Hd (ωk G DS B lo hi E N) μ H) (hS : FS (ωk G DS B lo hi E N) s H locs) (hl : lo ≤ hi) {atype : ArrayType} {t n : Nat} {x : Int32} (hd : DS[hi]? = some (t, n)) (ht : newarray.typeOf atype = tyT t) (h1 : 100 ≤ t) (h2 : t ≤ 103) (hw : Cond.arrayClass (newarray.typeOf atype) ∈ lw_tbl) (hx : ¬ x < 0) (hn : x.toNatClampNeg = n) (hbytes : n * componentBytes (newarray.typeOf atype) ≤ 536870912) (hcells : cells + 1 ≤ R.cells) (hslots : slots + n ≤ R.slots) (hdg : decode cc pc = .ok (.newarray atype, 2))
    (kk : ∀ H1 : Heap, Hd (ωk G DS B lo (hi + 1) E N) (zr μ hi) H1 → FS (ωk G DS B lo (hi + 1) E N) s H1 locs → W p l e R s m args below meth c H1 locs (cells + 1) (slots + n) Q (F0 m (pc + 2) ls (.ref (B + hi) :: rest))) : W p l e R s m args below meth c H locs cells slots Q (F0 m pc ls (.int x :: rest)) := by
  refine va_newaK C.1 C.2.1 (C.2.2.2.2.1 _ (tg hw rfl)) rfl hdg rfl hx hn hbytes hcells hslots (hS.2 : H.size = B + hi) fun H1 cA e1 z1 o1 hAr hNm => ?_
  have hcA : cA = G.2.2 t := by
    have := (hE s C.2.2.2.2.2.2.1).1 t h1 (by omega)
    rw [← ht] at this
    exact Option.some.inj (hNm.symm.trans this)
  subst hcA
  refine kk H1 (hH.grow hl o1 hd ⟨fun h => absurd h (by omega), fun _ => ?_⟩ (fun _ _ _ => rfl)) (hS.grow o1 z1 (Nat.le_succ _))
  refine Eq.trans e1 ?_
  congr 2
  funext i
  rw [ht]
  have hz := zr_eq (μ := μ) (i := hi)
  rcases (show t = 100 ∨ t = 101 ∨ t = 102 ∨ t = 103 by omega) with rfl | rfl | rfl | rfl
  · show Value.int 0 = Value.int ((zr μ hi).1 hi i); rw [hz.1]
  · show Value.int 0 = Value.int ((zr μ hi).1 hi i); rw [hz.1]
  · show Value.int 0 = Value.int ((zr μ hi).1 hi i); rw [hz.1]
  · show Value.long 0 = Value.long ((zr μ hi).2 hi i); rw [hz.2]
/-- new State[n] -/
theorem k_newq (hE : ∀ U, E U → KX G U) (C : Cx (ωk G DS B lo hi E N) p s m args c cc nL own) (hH : Hd (ωk G DS B lo hi E N) μ H) (hS : FS (ωk G DS B lo hi E N) s H locs) (hl : lo ≤ hi) {n index : Nat} {x : Int32} (hd : DS[hi]? = some (104, n)) (hw : Cond.classLink own index "SummerHouses$State" ∈ lw_tbl) (hN : ∀ k, N hi k = true) (hx : ¬ x < 0) (hn : x.toNatClampNeg = n) (hbytes : n * 4 ≤ 536870912) (hcells : cells + 1 ≤ R.cells) (hslots : slots + n ≤ R.slots) (hdg : decode cc pc = .ok (.anewarray index, 3))
    (kk : ∀ H1 : Heap, Hd (ωk G DS B lo (hi + 1) E N) (zr μ hi) H1 → FS (ωk G DS B lo (hi + 1) E N) s H1 locs → W p l e R s m args below meth c H1 locs (cells + 1) (slots + n) Q (F0 m (pc + 3) ls (.ref (B + hi) :: rest))) : W p l e R s m args below meth c H locs cells slots Q (F0 m pc ls (.int x :: rest)) := by
  subst hn
  have hk := hE s C.2.2.2.2.2.2.1
  have hz : H.size = B + hi := hS.2
  refine W.anew C.1 C.2.1 C.2.2.2.1 (C.2.2.2.2.1 _ (tg hw rfl)) (va_AO.use hk.2.1) rfl hdg rfl hx hbytes hcells hslots fun cA kA comp f1 f2 f3 f4 => ?_
  generalize hH1 : H.push ({ cls := cA, slots := Array.replicate x.toNatClampNeg .null, vm := .none } : Cell) = H1
  have z1 : H1.size = B + (hi + 1) := by rw [← hH1, Array.size_push]; omega
  have e1 : H1[B + hi]? = some (arrV cA x.toNatClampNeg (fun _ => .null)) := by rw [← hH1, ← hz, Array.getElem?_push_size, ← arrV_new]
  have o1 : ∀ q : Nat, q < B + hi → H1[q]? = H[q]? := fun q hq => by rw [← hH1, Array.getElem?_push, if_neg (by omega)]
  have hcA : cA = G.2.2 104 := Option.some.inj (f1.symm.trans (hk.1 104 (by decide) (by decide)))
  subst hcA
  rw [hz]
  refine kk H1 (hH.grow hl o1 hd ⟨fun h => absurd h (by decide), fun _ => ?_⟩ (fun _ _ _ => rfl)) (hS.grow o1 z1 (Nat.le_succ _))
  rw [e1]
  congr 2
  funext i
  simp [av, hN]
/-- new object -/
theorem k_new (C : Cx (ωk G DS B lo hi E N) p s m args c cc nL own) (hH : Hd (ωk G DS B lo hi E N) μ H) (hS : FS (ωk G DS B lo hi E N) s H locs) (hl : lo ≤ hi) {t n index : Nat} {r : vw_C} {ty : Nat → FieldType} (hd : DS[hi]? = some (t, n)) (ht : t < 100) (hr : classes[t]? = some r) (hty : ∀ k, k < r.2.2 → parseFieldDescriptor (r.2.1 k).2.2.1 = some (ty k)) (hdv : ∀ k, k < r.2.2 → defaultValue (ty k) = if FT t k = 0 then .int 0 else .null) (hN : ∀ k, N' hi k = true) (hN2 : ∀ j k, j < hi → N' j k = N j k) (hw : Cond.classLink own index r.1 ∈ lw_tbl) (hwi : Cond.instantiable r.1 r.2.2 ∈ lw_tbl) (hwn : Cond.initialized r.1 ∈ lw_tbl) (hcells : cells + 1 ≤ R.cells) (hslots : slots + r.2.2 ≤ R.slots) (hdg : decode cc pc = .ok (.new index, 3))
    (kk : ∀ H1 : Heap, Hd (ωk G DS B lo (hi + 1) E N') (zr μ hi) H1 → FS (ωk G DS B lo (hi + 1) E N') s H1 locs → W p l e R s m args below meth c H1 locs (cells + 1) (slots + r.2.2) Q (F0 m (pc + 3) ls (.ref (B + hi) :: rest))) : W p l e R s m args below meth c H locs cells slots Q (F0 m pc ls rest) := by
  have hKn := C.2.2.2.2.2.1.1 t r hr
  have hts := C.2.2.2.2.1
  refine W.newcK C.1 C.2.1 C.2.2.2.1 (hts _ (tg hw rfl)) (hts _ (tg hwi rfl)) (hts _ (tg hwn rfl)) rfl hdg hcells hslots hKn.2.1 (hS.2 : H.size = B + hi) fun H1 kC hkC e1 z1 o1 => ?_
  refine kk H1 (hH.grow hl o1 hd ⟨fun _ => ⟨r, hr, (u_born ty hts (cl_ok t r hr).1 hKn hkC e1 hty).to fun k hk => ?_⟩, fun h => absurd ht (Nat.not_lt.mpr h)⟩ hN2) (hS.grow o1 z1 (Nat.le_succ _))
  rw [hdv k hk]
  unfold fv
  by_cases h0 : FT t k = 0
  · simp [h0, zr_eq]
  · simp [h0, hN]
/-- a final field of this, in a constructor -/
theorem k_put (hin2 : meth.name = "<init>") (C : Cx (ωk G DS B lo hi E N) p s m args c cc nL own) (hH : Hd (ωk G DS B lo hi E N) μ H) (hS0 : FS (ωk G DS B lo hi E N) s H locs) {j t n index k : Nat} {r : vw_C} {name desc : String} {ty : FieldType} {v : Value} {μ' : Mem} (hv : lo ≤ j ∧ j < hi) (hd : DS[j]? = some (t, n)) (ht : t < 100) (hr : classes[t]? = some r) (hk : k < r.2.2) (hT : r.2.1 k = (own, name, desc, true)) (hw : Cond.fieldLink own index own name desc ∈ lw_tbl) (hty : parseFieldDescriptor desc = some ty) (hn : narrow ty v = v) (hfit : fits ty v = true)
    (hμ : ∀ i, i ≠ j → μ'.1 i = μ.1 i ∧ μ'.2 i = μ.2 i) (hN : ∀ i, i ≠ j → ∀ x, N' i x = N i x) (hval : ∀ x, fv B N' μ' j t x = if x = k then v else fv B N μ j t x) (hdg : decode cc pc = .ok (.putfield index, 3))
    (kk : ∀ (H1 : Heap) (locs1 : List Loc), Hd (ωk G DS B lo hi E N') μ' H1 → FS (ωk G DS B lo hi E N') s H1 locs1 → W p l e R s m args below meth c H1 locs1 cells slots Q (F0 m (pc + 3) ls rest)) : W p l e R s m args below meth c H locs cells slots Q (F0 m pc ls (v :: .ref (B + j) :: rest)) := by
  obtain ⟨hx, hb, -, hown, hts, hK, -, hok⟩ := C
  obtain ⟨r', h1, cell, q1, q2, q3, q4⟩ := (hH j t n hv hd).1 ht
  cases h1.symm.trans hr
  obtain ⟨hS, hfc, kC, hkC, hkind⟩ := hK.1 t _ hr
  obtain ⟨cf, kf, fi, f, hi', hsl⟩ := hS k hk
  obtain ⟨hin, hnm, tys, htys⟩ := cl_ok t r hr
  have hap : ∀ x y, x < r.2.2 → y < r.2.2 → x ≠ y → ((wG (ωk G DS B lo hi E N)).2.1 t) x ≠ ((wG (ωk G DS B lo hi E N)).2.1 t) y := by
    intro x y hx hy hne
    obtain ⟨_, _, _, fa, hia, ea⟩ := hS x hx
    obtain ⟨_, _, _, fb, hib, eb⟩ := hS y hy
    rw [← ea, ← eb]
    refine u_apart (u_lays hts hin hx) (u_lays hts hin hy) hia hib ?_
    rw [(State.fieldFound?_type hia (htys x hx)).1, (State.fieldFound?_type hib (htys y hy)).1]
    exact hnm x hx y hy hne
  have hlay := hts _ (hin _ (u_in_lay hk))
  unfold u_lay at hlay
  rw [if_pos (by rw [hT])] at hlay
  have hst := (u_facts hfc hkC (u_lays hts hin hk) hi').1
  have hcf : m.cls = cf := by
    obtain ⟨_, _, c', _, _, _, -, -, hf', -, -, -, hown2, -⟩ := Cond.laysFinal_spec hlay
    have e1 : c' = cf := by have := hi'.symm.trans hf'; simp at this; exact this.1.symm
    rw [hT] at hown2
    rw [← e1]; exact Option.some.inj (hown.symm.trans hown2)
  have h6 := u_fits hfc hkC hkind (Or.inr hlay) hi' (by rw [hT]; exact hty) hn hfit
  have hi2 := hi'
  rw [hT] at hi2
  refine W.putFinK hx hb hown (hts _ (tg hw rfl)) hi2 hst hcf hin2 (by rw [q2]; exact h6) q1 q3 (by rw [hsl]; exact k2_hasslot (q4 k hk)) rfl rfl hdg fun H' e1 e2 e3 => ?_
  rw [hsl] at e1 ⊢
  refine kk H' _ (fun i t' n' hv' hd' => ?_) (hS0.put e2 e3 (hok.1 j t n hv hd))
  have hd' : DS[i]? = some (t', n') := hd'
  by_cases ei : i = j
  · subst ei
    cases hd.symm.trans hd'
    refine ⟨fun _ => ⟨r, hr, t_OB.to (V := updV (fv B N μ i t) k v) ⟨_, e1, q2, q3, t_set q4 hap hk _⟩ (fun x _ => ?_)⟩, fun h => absurd ht (Nat.not_lt.mpr h)⟩
    show updV (fv B N μ i t) k v x = fv B N' μ' i t x
    rw [hval x]
    rfl
  · have h0 : cell_at G B N μ i t' n' H := hH i t' n' hv' hd'
    exact ((h0.same (hμ i ei).1 (hμ i ei).2).mask (hN i ei)).kept (e3 _ (by show B + i ≠ B + j; omega))
/-- a State put into an array of them -/
theorem k_aast (C : Cx (ωk G DS B lo hi E N) p s m args c cc nL own) (hE : ∀ U, E U → KX G U) (hH : Hd (ωk G DS B lo hi E N) μ H) (hS : FS (ωk G DS B lo hi E N) s H locs) {j n : Nat} {i : Int32} (hv : lo ≤ j ∧ j < hi) (hd : DS[j]? = some (104, n)) (hin : ix i n = true) (hv2 : lo ≤ j + 1 + 2 * i.toNatClampNeg ∧ j + 1 + 2 * i.toNatClampNeg < hi) (hd2 : DS[j + 1 + 2 * i.toNatClampNeg]? = some (7, 5)) (hN : ∀ x y, N' x y = if x = j ∧ y = i.toNatClampNeg then false else N x y) (hdg : decode cc pc = .ok (.aastore, 1))
    (kk : ∀ (H1 : Heap) (locs1 : List Loc), Hd (ωk G DS B lo hi E N') μ H1 → FS (ωk G DS B lo hi E N') s H1 locs1 → W p l e R s m args below meth c H1 locs1 cells slots Q (F0 m (pc + 1) ls rest)) : W p l e R s m args below meth c H locs cells slots Q (F0 m pc ls (.ref (B + (j + 1 + 2 * i.toNatClampNeg)) :: .int i :: .ref (B + j) :: rest)) := by
  obtain ⟨hx, hb, -, hown, hts, hK, hEs, hok⟩ := C
  have hlt := ix_lt hin
  have h0 : ¬ i < 0 := fun q => ix_in hin (Or.inl q)
  obtain ⟨r', hr', cellV, g1, g2, g3, -⟩ := (hH _ 7 5 hv2 hd2).1 (by decide)
  have hrr : r' = (RX7, TX7, 5) := Option.some.inj (hr'.symm.trans rfl)
  subst hrr
  have hcls := (hK.1 7 (RX7, TX7, 5) rfl).2
  obtain ⟨comp, cA, kA, hcomp, -, hkA, hkindA, hnameA⟩ := Cond.arrayOver_spec (hE s hEs).2.1
  have hcA : cA = G.2.2 104 := Option.some.inj (hnameA.symm.trans ((hE s hEs).1 104 (by decide) (by decide)))
  subst hcA
  have hcomp2 : comp = G.1 7 := Option.some.inj (hcomp.symm.trans hcls.1)
  subst hcomp2
  obtain ⟨kC, hkC, -⟩ := hcls.2
  have harr := (hH j 104 n hv hd).2 (by decide)
  refine W.aast hx hb harr (fun q h => by cases h) (fun h => by cases h) hkA hkindA rfl hkC ⟨h0, by rw [arrV_size]; exact hlt⟩ g1 (fun q h => by rw [g3] at h; cases h) (by rw [g2]; exact hkC) (by rw [g2]; exact va_assign hcls) rfl rfl hdg fun H1 e1 z oq => ?_
  refine kk H1 _ (fun x t' n' hv' hd' => ?_) (hS.put z oq (hok.1 j 104 n hv hd))
  have hd' : DS[x]? = some (t', n') := hd'
  by_cases ei : x = j
  · subst ei
    cases hd.symm.trans hd'
    refine ⟨fun h => absurd h (by decide), fun _ => ?_⟩
    refine Eq.trans e1 ?_
    rw [arrV_store]
    congr 2
    funext y
    show updV (av B N μ x 104) _ _ y = av B N' μ x 104 y
    unfold updV av
    by_cases ey : y = i.toNatClampNeg
    · simp [ey, hN]; rfl
    · simp [ey, hN]
  · have h0 : cell_at G B N μ x t' n' H := hH x t' n' hv' hd'
    exact (h0.mask (N' := N') (fun y => by rw [hN x y, if_neg (fun z => ei z.1)])).kept (oq _ (by show B + x ≠ B + j; omega))
/-- a constructor's contract -/
def rmc (d mc ms : Nat) : Room := { frames := d, cells := mc, slots := ms, locals := 64 * d }
def Ini (l : Launch) (y : MethodName) (cy : ByteArray) (ny d mc ms : Nat) (G : GG) (DS : List (Nat × Nat)) (B i len : Nat) (E : State → Prop) (as : List Value) (μ μ' : Mem) : Prop :=
  Met l y (wy y cy ny none) (rmc d mc ms) (va_Pc (.ref (B + i) :: as) (fun U => Hd (ωk G DS B i (i + 1) E (fun _ _ => true)) μ U.heap ∧ U.heap.size = B + (i + 1) ∧ KK G U ∧ E U ∧ Eok (B + i) E))
    (fun _ st oc t => oc = .returned none ∧ Hd (ωk G DS B i (i + len) E (fun _ _ => false)) μ' t.heap ∧ t.heap.size = B + (i + len) ∧ va_F (fun q => B + i ≤ q) st t) mc ms (fun q => B + i ≤ q)
theorem ini_of {y : MethodName} {ny d mc ms i len : Nat} {as : List Value} {μ' : Mem} (hy : plainName y.cls = true) (hnm : y.name = "<init>") (hn : (lg_sl (.ref (B + i) :: as)).length ≤ ny)
    (body : ∀ (p : Program) (e : Env) (s : State) (m : MethodId) (args : Array Value) (below : List Frame) (meth : Method) (c : Code) (ls : Array Slot), Cx (ωk G DS B i (i + 1) E (fun _ _ => true)) p s m args c cc ny y.cls → meth.sig.returnType = none → meth.locks = false → meth.name = "<init>" → Eok (B + i) E → lv_has ls ny (lv_args 0 (.ref (B + i) :: as)) → Hd (ωk G DS B i (i + 1) E (fun _ _ => true)) μ s.heap → FS (ωk G DS B i (i + 1) E (fun _ _ => true)) s s.heap [] →
      W p l e (rmc d mc ms) s m args below meth c s.heap [] 0 0 (MQ below (fun _ st oc t => oc = .returned none ∧ Hd (ωk G DS B i (i + len) E (fun _ _ => false)) μ' t.heap ∧ t.heap.size = B + (i + len) ∧ va_F (fun q => B + i ≤ q) st t) args s mc ms (fun q => B + i ≤ q)) (F0 m 0 ls [])) : Ini l y cc ny d mc ms G DS B i len E as μ μ' := by
  refine Met.ofW (cc := cc) (maxL := ny) (ret := none) hy rfl ?_
  intro p e s m args below meth c s₁ Bd hml hv
  obtain ⟨rfl, hH, hz, hK, hE, hok⟩ := hv
  have hts := atoms_spec (ws := wy y cc ny none) Bd.pre
  have hl := lv_entry (.ref (B + i) :: as) (n := ny) hn
  rw [lg_entry_eq]
  generalize (lg_sl (.ref (B + i) :: as) ++ List.replicate (ny - (lg_sl (.ref (B + i) :: as)).length) Slot.unset).toArray = ls at hl ⊢
  exact body p e s m _ below meth c ls ⟨Bd.exec, Bd.bytes, hml, findClass_of_methodNamed Bd.named, fun w hw => hts w (List.mem_cons_of_mem _ hw), hK, hE, wok_k hok⟩ Bd.returns Bd.notSynchronized ((name_of_methodNamed Bd.named Bd.method).1.trans hnm) hok hl hH (FS.rf hz)
/-- a constructor's end -/
theorem k_ret {i len mc ms : Nat} {μ' : Mem} (C : Cx (ωk G DS B i hi E N) p s m args c cc nL own) (hr : meth.sig.returnType = none) (hlocks : meth.locks = false) (hH : Hd (ωk G DS B i hi E N) μ' H) (hS : FS (ωk G DS B i hi E N) s H locs) (hhi : hi = i + len) (hN : ∀ j k, N j k = false) (hc : cells = mc) (hs : slots = ms) (hdg : decode cc pc = .ok (.return_, 1)) :
    W p l e R s m args below meth c H locs cells slots (MQ below (fun _ st oc t => oc = .returned none ∧ Hd (ωk G DS B i (i + len) E (fun _ _ => false)) μ' t.heap ∧ t.heap.size = B + (i + len) ∧ va_F (fun q => B + i ≤ q) st t) args s mc ms (fun q => B + i ≤ q)) (F0 m pc ls []) := by
  subst hc; subst hs; subst hhi
  have eN : N = fun _ _ => false := by funext j k; exact hN j k
  subst eN
  exact W.vret C.1 C.2.1 hr (fun t ht hW => ⟨rfl, by rw [ht]; exact hH, by rw [ht]; exact hS.2, hS.1.F ht⟩) hS.1.2.2 hdg hlocks
/-- a constructor called: 'new C; dup; .. ; invokespecial' with the child at hi -/
theorem k_init {y : MethodName} {cy : ByteArray} {ny np d mc ms len index : Nat} {as st : List Value} {μ1 : Mem} (hM : Ini l y cy ny d mc ms G DS B hi len E as μ μ1) (hok : Eok (B + lo) E) (C : Cx (ωk G DS B lo (hi + 1) E N) p s m args c cc nL own) (hsz : ls.size = nL) (hl : lo ≤ hi) (hH : Hd (ωk G DS B lo (hi + 1) E N) μ H) (hN : ∀ k, N hi k = true) (hN2 : ∀ j k, j < hi → N' j k = N j k) (hN3 : ∀ j k, hi ≤ j → N' j k = false) (hS : FS (ωk G DS B lo (hi + 1) E N) s H locs) (hst : st = as.reverse ++ .ref (B + hi) :: rest) (hy : Mw y cy ny none np) (hyn : y.name = "<init>") (hwi : Cond.instanceMethod y ∈ lw_tbl) (hw : Cond.methodLink own index y ∈ lw_tbl)
    (hn : as.length = np) (hR : d + 1 ≤ R.frames ∧ 8 + (ny + 11) + 64 * d ≤ R.locals) (hrest : (rest.map fun v => v.category).sum ≤ 8) (hcs : cells + mc ≤ R.cells ∧ slots + ms ≤ R.slots) (hdg : decode cc pc = .ok (.invokespecial index, 3))
    (kk : ∀ (H1 : Heap) (locs1 : List Loc), Hd (ωk G DS B lo (hi + len) E N') (mg hi μ μ1) H1 → FS (ωk G DS B lo (hi + len) E N') s H1 locs1 → W p l e R s m args below meth c H1 locs1 (cells + mc) (slots + ms) Q (F0 m (pc + 3) ls rest)) : W p l e R s m args below meth c H locs cells slots Q (F0 m pc ls st) := by
  subst hst
  have hz : H.size = B + (hi + 1) := hS.2
  have hHc : Hd (ωk G DS B hi (hi + 1) E (fun _ _ => true)) μ H := by
    intro j t n hv hd
    have hv : hi ≤ j ∧ j < hi + 1 := hv
    have ej : j = hi := by omega
    subst ej
    have h0 : cell_at G B N μ j t n H := hH j t n ⟨hl, hv.2⟩ hd
    exact h0.mask (fun k => (hN k).symm)
  have hrun := va_runI (As := as) (rest := rest) (b := B + hi) (n := np) (g := F0 m pc ls (as.reverse ++ .ref (B + hi) :: rest)) (e := e) (below := below) (H := H) (locs := locs) (cells := cells) (slots := slots) (R := R) (meth := meth) (p := p) ⟨C.1, C.2.1, C.2.2.1, C.2.2.2.1, C.2.2.2.2.1⟩ hM ⟨callB_of np C.2.2.2.2.1 (good_wy hy.1) rfl rfl rfl (C.2.2.2.2.1 _ (tg hy.2.1 rfl)) (C.2.2.2.2.1 _ (tg hw rfl)) ⟨hy.2.2.1, hy.2.2.2.1, hy.2.2.2.2⟩ hR, hyn, C.2.2.2.2.1 _ (tg hwi rfl)⟩
    ⟨fun a U g mk q => by
      obtain ⟨h1, h2, h3, h4, h5, h6⟩ := q
      exact ⟨h1, h2, h3, KK.moved (u := U) (U := U.calling g mk a) (Vm.Alike.refl U.vm) h4, h6 U (U.calling g mk a) h5 (Or.inr rfl) (fun _ _ _ => rfl), h6⟩,
     fun U hU hW => ⟨rfl, by rw [hU]; exact hHc, by rw [hU]; exact hz, C.2.2.2.2.2.1.moved hW.alike, hok s U C.2.2.2.2.2.2.1 (Or.inl hW) (fun q h1 h2 => by rw [hU]; exact hS.1.2.1 q h1 (fun z => by have z : B + lo ≤ q := z; omega)), hok.up (Nat.add_le_add_left hl B)⟩⟩ rfl hn hsz rfl (lv_room hrest) hdg hcs
  intro T hT X
  obtain ⟨v', st₀, t, T', L, h0, X', hL, e1, e2, ⟨hv, hH1, hsz1, hz1, hk1⟩, stp⟩ := hrun T hT X
  cases hv
  rw [h0] at hz1 hk1
  have hlow : ∀ q : Nat, q < B + hi → t.heap[q]? = H[q]? := fun q hq => hk1 q (by omega) (fun z => by have z : B + hi ≤ q := z; omega)
  obtain ⟨t2, a1, b1⟩ := kk T'.heap (locs ++ L) (fun j t' n' hv hd => by
      have hv : lo ≤ j ∧ j < hi + len := hv
      have hd : DS[j]? = some (t', n') := hd
      rw [e1]
      by_cases ej : j < hi
      · have h9 : cell_at G B N μ j t' n' H := hH j t' n' ⟨hv.1, by omega⟩ hd
        exact ((h9.same (mg_lo ej).1 (mg_lo ej).2).mask (fun k => hN2 j k ej)).kept (hlow _ (by omega))
      · have h9 : cell_at G B (fun _ _ => false) μ1 j t' n' t.heap := hH1 j t' n' ⟨by omega, hv.2⟩ hd
        exact (h9.same (mg_hi (Nat.not_lt.mp ej)).1 (mg_hi (Nat.not_lt.mp ej)).2).mask (fun k => hN3 j k (by omega))) ⟨⟨by rw [e1]; have := hS.1.1; omega, fun q g1 g2 => by rw [e1, hlow q (by have g2 : ¬ B + lo ≤ q := g2; omega)]; exact hS.1.2.1 q g1 g2, fun q hq => by
      rcases List.mem_append.mp hq with h | h
      · exact hS.1.2.2 q h
      · have := hL q h
        show B + lo ≤ q.base
        omega⟩, by rw [e1]; exact hsz1⟩ T' rfl X'
  exact ⟨t2, stp t2 a1, b1⟩
theorem Hd.ent {i t n : Nat} {Rem : List Nat} (hH : Hd (ωk G DS B i (i + 1) E (fun _ _ => true)) μ H) (hd : DS[i]? = some (t, n)) (ht : t < 100) (hR : ∀ k, FT t k ≠ 0 → Rem.contains k = true) : Hd (ωk G DS B i (i + 1) E (nf i Rem)) μ H := by
  intro j t' n' hv hd'
  have hv : i ≤ j ∧ j < i + 1 := hv
  have ej : j = i := by omega
  subst ej
  cases hd.symm.trans hd'
  have h0 : cell_at G B (fun _ _ => true) μ j t n H := hH j t n hv hd
  exact h0.maskO ht (fun k hk => by show nf j Rem j k = true; simp only [nf, hR k hk]; simp)
theorem nf_put {i t k x : Nat} {Rem : List Nat} (hk : FT t k ≠ 0) (hR : Rem.contains k = false) : fv B (nf i Rem) μ i t x = if x = k then .ref (B + (i + FT t k)) else fv B (nf i (k :: Rem)) μ i t x := by
  unfold fv
  by_cases e : x = k
  · subst e
    have : nf i Rem i x = false := by simp only [nf, hR]; simp
    simp [hk, this]
  · have : nf i (k :: Rem) i x = nf i Rem i x := by
      simp only [nf, List.contains_cons]
      have : (x == k) = false := by simp [e]
      rw [this]; simp
    simp [e, this]
theorem nf_ne {i j k : Nat} {Rem : List Nat} (h : j ≠ i) : nf i Rem j k = false := by simp [nf, h]
theorem nf_nil {i j k : Nat} : nf i [] j k = false := by simp [nf]
/-- a reference field of this -/
theorem k_putr (hin2 : meth.name = "<init>") {i t n index k : Nat} {Rem : List Nat} {r : vw_C} {name desc : String} {ty : FieldType} {a : Nat} (C : Cx (ωk G DS B i hi E (nf i (k :: Rem))) p s m args c cc nL own) (hH : Hd (ωk G DS B i hi E (nf i (k :: Rem))) μ H) (hS0 : FS (ωk G DS B i hi E (nf i (k :: Rem))) s H locs) (hd : DS[i]? = some (t, n)) (ht : t < 100) (hr : classes[t]? = some r) (hk : k < r.2.2) (hT : r.2.1 k = (own, name, desc, true)) (hw : Cond.fieldLink own index own name desc ∈ lw_tbl) (hty : parseFieldDescriptor desc = some ty) (hn : narrow ty (.ref (B + a)) = .ref (B + a)) (hfit : fits ty (.ref (B + a)) = true) (hf : FT t k ≠ 0) (ha : a = i + FT t k) (hR : Rem.contains k = false) (hlt : i < hi) (hdg : decode cc pc = .ok (.putfield index, 3))
    (kk : ∀ (H1 : Heap) (locs1 : List Loc), Hd (ωk G DS B i hi E (nf i Rem)) μ H1 → FS (ωk G DS B i hi E (nf i Rem)) s H1 locs1 → W p l e R s m args below meth c H1 locs1 cells slots Q (F0 m (pc + 3) ls rest)) : W p l e R s m args below meth c H locs cells slots Q (F0 m pc ls (.ref (B + a) :: .ref (B + i) :: rest)) := by
  subst ha
  exact k_put hin2 C hH hS0 ⟨Nat.le_refl _, hlt⟩ hd ht hr hk hT hw hty hn hfit (fun _ _ => ⟨rfl, rfl⟩) (fun j hj x => by rw [nf_ne hj, nf_ne hj]) (fun x => nf_put hf hR) hdg kk
/-- Object's own constructor -/
theorem k_obj {ω : WW} (C : Cx ω p s m args c cc nL own) (hsz : ls.size = nL) {idx a : Nat} (hw : Cond.methodLink own idx objectInit ∈ lw_tbl) (hframes : 1 ≤ R.frames) (hlocals : (rest.map fun v => v.category).sum + 12 ≤ R.locals) (hdg : decode cc pc = .ok (.invokespecial idx, 3))
    (kk : W p l e R s m args below meth c H locs cells slots Q (F0 m (pc + 3) ls rest)) : W p l e R s m args below meth c H locs cells slots Q (F0 m pc ls (.ref a :: rest)) :=
  W.objInit (a := a) (rest := rest) C.1 C.2.1 C.2.2.2.1 (C.2.2.2.2.1 _ (tg hw rfl)) (C.2.2.2.2.1 _ (tg wd_125 rfl)) (C.2.2.2.2.1 _ (tg wd_126 rfl)) rfl (hsz.trans C.2.2.1.symm) rfl hdg hframes (by show 2 * 0 + _ + 12 ≤ _; omega) kk
/-- new int[n][k]: its rows behind it -/
theorem k_multi (hE : ∀ U, E U → KX G U) (C : Cx (ωk G DS B lo hi E N) p s m args c cc nL own) (hH : Hd (ωk G DS B lo hi E N) μ H) (hS : FS (ωk G DS B lo hi E N) s H locs) (hl : lo ≤ hi) {n k index : Nat} {x y : Int32} (hd : DS[hi]? = some (105, n)) (hdr : ∀ r, r < n → DS[hi + 1 + r]? = some (100, k)) (hN : ∀ j k, hi ≤ j → N j k = false) (hw : Cond.classLink own index "[[I" ∈ lw_tbl) (hx : ¬ x < 0) (hn : x.toNatClampNeg = n) (hy : ¬ y < 0) (hk : y.toNatClampNeg = k) (hb1 : n ≤ 1000) (hb2 : k ≤ 1000) (hcells : cells + (1 + n) ≤ R.cells) (hslots : slots + (n + n * k) ≤ R.slots) (hdg : decode cc pc = .ok (.multianewarray index 2, 4))
    (kk : ∀ H1 : Heap, Hd (ωk G DS B lo (hi + 1 + n) E N) (zrs μ hi (1 + n)) H1 → FS (ωk G DS B lo (hi + 1 + n) E N) s H1 locs → W p l e R s m args below meth c H1 locs (cells + 1 + n) (slots + n + n * k) Q (F0 m (pc + 4) ls (.ref (B + hi) :: rest))) : W p l e R s m args below meth c H locs cells slots Q (F0 m pc ls (.int y :: .int x :: rest)) := by
  subst hn; subst hk
  have hz : H.size = B + hi := hS.2
  have hK := hE s C.2.2.2.2.2.2.1
  have hlk : (Cond.classLink own index ("[" ++ (FieldType.array .int).toString)).before args s = true := by
    rw [show "[" ++ (FieldType.array .int).toString = "[[I" by decide]
    exact C.2.2.2.2.1 _ (tg hw rfl)
  refine w_multi C.1 C.2.1 C.2.2.2.1 hlk hK.2.2 (C.2.2.2.2.1 _ (tg wd_210 rfl)) rfl hdg rfl hx hy hb1 hb2 hcells hslots (fun H1 cA cI hcA hcI hM => ?_)
  have eA : cA = G.2.2 105 := Option.some.inj (hcA.symm.trans (hK.1 105 (by decide) (by decide)))
  have eI : cI = G.2.2 100 := Option.some.inj (hcI.symm.trans (hK.1 100 (by decide) (by decide)))
  subst eA; subst eI
  obtain ⟨f1, fo, f2, fi⟩ := hM
  rw [hz] at f1 fo f2 fi ⊢
  refine kk H1 (fun j t n' hv hd' => show cell_at G B N (zrs μ hi (1 + x.toNatClampNeg)) j t n' H1 from ?_) (hS.grow fo (by omega) (by omega))
  have hv : lo ≤ j ∧ j < hi + 1 + x.toNatClampNeg := hv
  have hd' : DS[j]? = some (t, n') := hd'
  by_cases h1 : j < hi
  · have h0 : cell_at G B N μ j t n' H := hH j t n' ⟨hv.1, h1⟩ hd'
    exact (h0.same (if_neg (by omega)) (if_neg (by omega))).kept (fo _ (by omega))
  · by_cases h2 : j = hi
    · subst h2
      cases hd.symm.trans hd'
      refine ⟨fun h => absurd h (by decide), fun _ => f2.trans (congrArg some (arr_cg (fun i hi => ?_)))⟩
      show (if i < x.toNatClampNeg then Value.ref (B + j + 1 + i) else Value.null) = if N j i = true then Value.null else Value.ref (B + (j + 1 + i))
      rw [if_pos hi, hN j i (Nat.le_refl _), if_neg (by decide), show B + j + 1 + i = B + (j + 1 + i) by omega]
    · obtain ⟨r, rfl⟩ : ∃ r, j = hi + 1 + r := ⟨j - (hi + 1), by omega⟩
      cases (hdr r (by omega)).symm.trans hd'
      refine ⟨fun h => absurd h (by decide), fun _ => ?_⟩
      rw [show B + (hi + 1 + r) = B + hi + 1 + r by omega, fi r (by omega)]
      have hzr : (zrs μ hi (1 + x.toNatClampNeg)).1 (hi + 1 + r) = fun _ => 0 := if_pos (by omega)
      refine congrArg some (arr_cg (fun i _ => ?_))
      show Value.int 0 = Value.int ((zrs μ hi (1 + x.toNatClampNeg)).1 (hi + 1 + r) i)
      rw [hzr]
theorem lay_sub {DS L Lc : List (Nat × Nat)} {i : Nat} (o : Nat) (hd : ∀ r x, L[r]? = some x → DS[i + r]? = some x) (hc : (List.range Lc.length).all (fun r => L[o + r]? == Lc[r]?) = true) : ∀ r x, Lc[r]? = some x → DS[i + o + r]? = some x := by
  intro r x h
  have hr : r < Lc.length := (List.getElem?_eq_some_iff.mp h).1
  have h1 := List.all_eq_true.mp hc r (List.mem_range.mpr hr)
  have h2 : L[o + r]? = Lc[r]? := by simpa using h1
  rw [Nat.add_assoc]
  exact hd (o + r) x (h2.trans h)
end CT
