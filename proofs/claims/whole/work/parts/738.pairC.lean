theorem alF_allF {p : Nat → Bool} {g : Nat → Int32} {n : Nat} (h : ∀ i, i < n → p i = false) : alF p g n = none := by
  induction n with
  | zero => rfl
  | succ n ih => rw [alF_stepF (h n (by omega))]; exact ih (fun i hi => h i (by omega))
theorem GGp_ext {n c0 c1 : Nat} {S T : Int32} {B B' b0 : Nat → Int32} {s : Mem} (h : GGp n c0 c1 S T B b0 s) (he : ∀ k, k < n → B k = B' k) : GGp n c0 c1 S T B' b0 s := by
  rcases h with ⟨a1, a2, a3⟩ | h
  · exact Or.inl ⟨a1, a2, fun k hk => (a3 k hk).trans (he k hk)⟩
  · exact Or.inr h
theorem maskBD : ∀ pd : Fin 64, ∀ h : Fin 6, (nI pd.1 &&& nI (2 ^ h.1 - 1) = nI (2 ^ h.1 - 1)) ↔ ∀ i : Fin 6, i.1 < h.1 → pd.1.testBit i.1 = true := by decide +kernel
def IVp (n h pd X : Nat) : Prop := X < 2 ^ n ∧ pd < 2 ^ n ∧ (∀ i, i < n → X.testBit i = (decide (h ≤ i) && !pd.testBit i)) ∧ (((∀ i, i < h → pd.testBit i = true) ∧ pcn X % 2 = n % 2) ∨ ((¬ ∀ i, i < h → pd.testBit i = true) ∧ pcn X % 2 = 0 ∧ n % 2 = 1))
theorem IVp_Bx {n h m pd X : Nat} (hh : h + m = n) (hI : IVp n h pd X) : Bx n m X := by
  refine ⟨hI.1, fun i hi => ?_⟩
  rw [hI.2.2.1 i (by omega)]
  have : ¬ h ≤ i := by omega
  simp [this]
theorem alone_c {n h pd X : Nat} (hn : n ≤ 6) (hh : h < n) (hI : IVp n h pd X) : fX2_mayStayAlone (nI n) (nI h) (nI pd) = some (if pcn X % 2 = 1 then 1 else 0) := by
  have hp6 := lt64 hI.2.1 hn
  have hm : (nI pd &&& nI (2 ^ h - 1) = nI (2 ^ h - 1)) ↔ ∀ i, i < h → pd.testBit i = true := by
    rw [maskBD ⟨pd, hp6⟩ ⟨h, by omega⟩]
    exact ⟨fun hx i hi => hx ⟨i, by omega⟩ hi, fun hx i hi => hx i.1 hi⟩
  unfold fX2_mayStayAlone
  rw [maskN (by omega), bd_eq, show (2 : Int32) = nI 2 from rfl, pk_rem (by omega) (by omega) (by omega)]
  rcases hI.2.2.2 with ⟨h1, h2⟩ | ⟨h1, h2, h3⟩
  · rw [if_pos (hm.mpr h1)]
    by_cases ho : n % 2 = 1
    · rw [if_pos (by rw [ho]; rfl), if_pos (by omega)]
    · rw [if_neg (by rw [show n % 2 = 0 by omega]; decide), if_neg (by omega)]
  · rw [if_pos (by rw [h3]; rfl), if_neg (fun hx => h1 (hm.mp hx)), if_neg (by omega)]
theorem IVp_skip {n h pd X : Nat} (hI : IVp n h pd X) (hb : pd.testBit h = true) : IVp n (h + 1) pd X := by
  obtain ⟨a1, a2, a3, a4⟩ := hI
  refine ⟨a1, a2, fun i hi => ?_, ?_⟩
  · rw [a3 i hi]
    by_cases he : i = h
    · subst he; rw [hb]; simp
    · have : h ≤ i ↔ h + 1 ≤ i := by omega
      simp [this]
  · have e : (∀ i, i < h + 1 → pd.testBit i = true) ↔ ∀ i, i < h → pd.testBit i = true := by
      constructor
      · intro hx i hi; exact hx i (by omega)
      · intro hx i hi
        by_cases he : i = h
        · subst he; exact hb
        · exact hx i (by omega)
    rw [e]; exact a4
theorem IVp_pair {n h m o pd X : Nat} (hn : n ≤ 6) (hm : h + (m + 1) = n) (hI : IVp n h pd X) (hb : X.testBit h = true) (ho : o < n) (hlt : h < o) (hbo : X.testBit o = true) : IVp n (h + 1) (pd ||| 2 ^ h ||| 2 ^ o) (X ^^^ 2 ^ h ^^^ 2 ^ o) := by
  have hB := IVp_Bx hm hI
  have eh : n - (m + 1) = h := by omega
  have hb' : X.testBit (n - (m + 1)) = true := by rw [eh]; exact hb
  have hpc := pc_2 hn (by omega) hB hb' ho (by omega) hbo
  rw [eh] at hpc
  obtain ⟨a1, a2, a3, a4⟩ := hI
  refine ⟨xor_lt (xor_lt a1 (by omega)) ho, or_lt (or_lt a2 (by omega)) ho, fun i hi => ?_, ?_⟩
  · rw [tb_xor, tb_xor, tb_or, tb_or]
    by_cases h1 : h = i
    · subst h1
      have : ¬ o = h := by omega
      rw [hb]; simp [this]
    · by_cases h2 : o = i
      · subst h2
        rw [hbo]
        have : ¬ h = o := by omega
        simp [this]
      · rw [a3 i hi]
        have : h ≤ i ↔ h + 1 ≤ i := by omega
        simp [h1, h2, this]
  · have e : (∀ i, i < h + 1 → (pd ||| 2 ^ h ||| 2 ^ o).testBit i = true) ↔ ∀ i, i < h → pd.testBit i = true := by
      constructor
      · intro hx i hi
        have := hx i (by omega)
        rw [tb_or, tb_or] at this
        have h1 : ¬ h = i := by omega
        have h2 : ¬ o = i := by omega
        simpa [h1, h2] using this
      · intro hx i hi
        rw [tb_or, tb_or]
        by_cases he : h = i
        · simp [he]
        · rw [hx i (by omega)]; simp
    rw [e]
    rcases a4 with ⟨b1, b2⟩ | ⟨b1, b2, b3⟩
    · exact Or.inl ⟨b1, by omega⟩
    · exact Or.inr ⟨b1, by omega, b3⟩
theorem IVp_alone {n h pd X : Nat} (hn : n ≤ 6) (hh : h < n) (hI : IVp n h pd X) (hb : X.testBit h = true) (hp : pcn X % 2 = 1) : IVp n (h + 1) pd (X ^^^ 2 ^ h) := by
  have hpc := pc_xor hn hI.1 hh hb
  obtain ⟨a1, a2, a3, a4⟩ := hI
  have hpd : pd.testBit h = false := by
    have := a3 h hh
    rw [hb] at this
    simpa using this
  refine ⟨xor_lt a1 hh, a2, fun i hi => ?_, ?_⟩
  · rw [tb_xor]
    by_cases h1 : h = i
    · subst h1; rw [hb]; simp; intro hx; omega
    · rw [a3 i hi]
      have : h ≤ i ↔ h + 1 ≤ i := by omega
      simp [h1, this]
  · refine Or.inr ⟨fun hx => ?_, by omega, ?_⟩
    · have := hx h (by omega)
      rw [hpd] at this
      cases this
    · rcases a4 with ⟨b1, b2⟩ | ⟨b1, b2, b3⟩
      · omega
      · exact b3
def F3 (μ s : Mem) : Prop := (∀ j, ¬ (183 ≤ j ∧ j ≤ 185) → s.1 j = μ.1 j) ∧ s.2 = μ.2
theorem F3_rfl {μ : Mem} : F3 μ μ := ⟨fun _ _ => rfl, rfl⟩
theorem F3_tr {a b c : Mem} (h : F3 a b) (h2 : F3 b c) : F3 a c := ⟨fun j x => (h2.1 j x).trans (h.1 j x), h2.2.trans h.2⟩
theorem F3_up {μ : Mem} {j k : Nat} {v : Int32} (h : 183 ≤ j ∧ j ≤ 185) : F3 μ (upI μ j k v) := ⟨fun i _ => rd_Ii (by omega), rfl⟩
theorem F3_KC {μ s : Mem} (h : F3 μ s) : KC μ s := ⟨fun j a b c d => h.1 j (by omega), h.2, MqE_of (fun j hj => h.1 j (by omega))⟩
theorem pair11_c {n : Nat} {μ : Mem} {go : Nat → Int32 → Int32 → Int32 → Int32 → Mem → Option Mem} {l : Int32} (hn : n ≤ 6) : Wo (fX2_pairFrom_b11 go 24 l μ) (fun s => F3 μ s ∧ s.1 184 = μ.1 184 ∧ GGp n 183 185 (μ.1 183 2) l (μ.1 184) (μ.1 185) s) := by
  unfold fX2_pairFrom_b11
  refine Wo_if (fun hc => ?_) (fun hc => ?_)
  · rw [Wo_some]
    exact ⟨F3_rfl, rfl, Or.inr ⟨by grind, rfl, rfl⟩⟩
  · rw [bd_eq, show cpo 0 0 6 6 6 = true from by decide, gd_true, bd_eq, Wo_some]
    refine ⟨⟨fun j hj => ?_, rfl⟩, ?_, Or.inl ⟨by grind, ?_, fun k hk => ?_⟩⟩
    · rw [(upA_ne (by omega)).1, rd_Ii (by omega)]
    · rw [(upA_ne (by omega)).1, rd_Ii (by omega)]
    · rw [(upA_ne (by omega)).1, rd_Is]
    · rw [upA_eq, show (6 : Int32).toNatClampNeg = 6 from rfl, show (0 : Int32).toNatClampNeg = 0 from rfl, pk_cpy_in (Nat.zero_le _) (by omega), rd_Ii (by omega), Nat.zero_add, Nat.sub_zero]
/-- with whom each is, if the house is with b -/
def pwB (R : Rw) (n m X b i : Nat) : Int32 := if b < n then (if i = n - (m + 1) then nI b else if i = b then nI (n - (m + 1)) else pwS R n m (X ^^^ 2 ^ (n - (m + 1)) ^^^ 2 ^ b) i) else (if i = n - (m + 1) then -2 else pwS R n m (X ^^^ 2 ^ (n - (m + 1))) i)
theorem pwS_s {R : Rw} {n m x i : Nat} (hb : x.testBit (n - (m + 1)) = true) : pwS R n (m + 1) x i = pwB R n m x (cP R n m x) i := by
  show (if x.testBit (n - (m + 1)) then _ else _) = _
  rw [if_pos hb]; rfl
theorem pwS_f {R : Rw} {n m x i : Nat} (hb : x.testBit (n - (m + 1)) = false) : pwS R n (m + 1) x i = pwS R n m x i := by
  show (if x.testBit (n - (m + 1)) then _ else _) = _
  rw [if_neg (by rw [hb]; decide)]
theorem pair_c {w : Kw} {R : Rw} (hK : KZ w) (hR : RG w R) {m : Nat} : ∀ {f h pd X l : Nat} {μ : Mem}, m < f → h + m = kn w → IVp (kn w) h pd X → l ≤ 999 * h → SR μ 24 (kp w) R → Wo (fX2_pairFrom f 24 (nI (kn w)) (nI h) (nI pd) (nI l) μ) (fun s => F3 μ s ∧ (∀ i, i < kn w → X.testBit i = false → s.1 184 i = μ.1 184 i) ∧ GGp (kn w) 183 185 (μ.1 183 2) (nI l + pvS R (kn w) m X) (fun i => if X.testBit i then pwS R (kn w) m X i else μ.1 184 i) (μ.1 185) s) := by
  have hn := hK.1.1
  induction m with
  | zero =>
    intro f h pd X l μ hf hh hI hl hS
    obtain ⟨f, rfl⟩ : ∃ f', f = f' + 1 := ⟨f - 1, by omega⟩
    show Wo (fX2_pairFrom_b _ _ _ _ _ _ _) _
    unfold fX2_pairFrom_b
    rw [if_pos (by rw [nI_leI (by omega) (by omega)]; omega)]
    refine Wo_mono (pair11_c (n := kn w) hn) ?_
    rintro s ⟨k1, k2, k3⟩
    refine ⟨k1, fun i _ _ => by rw [k2], ?_⟩
    rw [show nI l + pvS R (kn w) 0 X = nI l by show nI l + 0 = _; grind]
    refine GGp_ext k3 (fun k hk => ?_)
    rw [if_neg]
    rw [(IVp_Bx hh hI).2 k (by omega)]; decide
  | succ m ih =>
    intro f h pd X l μ hf hh hI hl hS
    obtain ⟨f, rfl⟩ : ∃ f', f = f' + 1 := ⟨f - 1, by omega⟩
    have hp6 := lt64 hI.2.1 hn
    have hB := IVp_Bx hh hI
    have eh : kn w - (m + 1) = h := by omega
    show Wo (fX2_pairFrom_b _ _ _ _ _ _ _) _
    unfold fX2_pairFrom_b
    rw [if_neg (by rw [nI_leI (by omega) (by omega)]; omega), if_pos (by simp (disch := omega) only [L_add, L_add2, L_mul, L_mul2, L_sub, nI_add, pk_mul, pk_sub, L_le, L_le2, L_lt, L_lt2, L_eq, L_eq2, nI_leI, nI_ltI, nI_eq, nI_clamp, ix_nI, ix_lit, L_cl]; omega), B_bit hp6 (by omega)]
    by_cases hpd : pd.testBit h = true
    · have hXf : X.testBit h = false := by rw [hI.2.2.1 h (by omega), hpd]; simp
      rw [if_pos hpd, if_pos rfl, nI_1, Wo_b1]
      refine Wo_mono (ih (f := f) (h := h + 1) (by omega) (by omega) (IVp_skip hI hpd) (by omega) hS) ?_
      rintro s ⟨k1, k2, k3⟩
      rw [Wo_some]
      refine ⟨k1, k2, ?_⟩
      rw [pvS_f (by rw [eh]; exact hXf)]
      exact GGp_ext k3 (fun k hk => by rw [pwS_f (by rw [eh]; exact hXf)])
    · have hXt : X.testBit h = true := by
        rw [hI.2.2.1 h (by omega)]
        simpa using hpd
      have hXt' : X.testBit (kn w - (m + 1)) = true := by rw [eh]; exact hXt
      obtain ⟨ca, cb, cc⟩ := cP_al (R := R) hn (by omega) hB hXt'
      have hg : ∀ o, pP (kn w) m X o = true → ∃ v, v ≤ 100000 ∧ gP R (kn w) m X o = nI v := by
        intro o ho
        obtain ⟨v, hv, ev⟩ := gP_nI hR hn (by omega) hB hXt' ho
        have := pc_le hn hI.1
        exact ⟨v, by omega, ev⟩
      rw [if_neg hpd, if_neg (by decide), bd_eq, nI_1]
      refine lpU (fun n' x s => fX2_pairFrom_l71 (fX2_pairFrom f) _ 24 (nI (kn w)) (nI h) (nI pd) (nI l) n' x s) (kn w) (fun o s => h < o ∧ F3 μ s ∧ (∀ i, i < kn w → X.testBit i = false → s.1 184 i = μ.1 184 i) ∧ (match alF (pP (kn w) m X) (gP R (kn w) m X) o with
        | none => s.1 183 2 = μ.1 183 2 ∧ s.1 185 = μ.1 185
        | some b => GGp (kn w) 183 185 (μ.1 183 2) (nI l + gP R (kn w) m X b) (fun i => if X.testBit i then pwB R (kn w) m X b i else μ.1 184 i) (μ.1 185) s)) _ ?_ ?_ FU (h + 1) μ (by omega) (by unfold FU; omega) ⟨by omega, F3_rfl, fun _ _ _ => rfl, ?_⟩
      · rintro n' o s ho ⟨hlt, i1, i2, i3⟩ hrec
        show Wo (fX2_pairFrom_s71 _ _ _ _ _ _ _ _ _ _) _
        unfold fX2_pairFrom_s71
        rw [if_neg (by rw [nI_leI (by omega) (by omega)]; omega), if_neg (by simp (disch := omega) only [L_add, L_add2, L_mul, L_mul2, L_sub, nI_add, pk_mul, pk_sub, L_le, L_le2, L_lt, L_lt2, L_eq, L_eq2, nI_leI, nI_ltI, nI_eq, nI_clamp, ix_nI, ix_lit, L_cl]; omega), B_bit hp6 (by omega)]
        by_cases hpo : pd.testBit o = true
        · rw [if_pos hpo, if_neg n10, nI_1]
          refine hrec s ⟨by omega, i1, i2, ?_⟩
          rw [alF_stepF (by unfold pP; rw [if_pos ho, hI.2.2.1 o ho, hpo]; simp)]
          exact i3
        · have hXo : X.testBit o = true := by
            rw [hI.2.2.1 o ho]
            have : h ≤ o := by omega
            simpa [this] using hpo
          have hpP : pP (kn w) m X o = true := by
            unfold pP
            have : kn w - (m + 1) < o := by omega
            rw [if_pos ho, hXo]
            simpa using this
          obtain ⟨u, hu, eu⟩ := ul_nI hR (show h < 6 by omega) (show o < 6 by omega)
          have f1 : F3 μ (upI (upI s 184 h (nI o)) 184 o (nI h)) := F3_tr i1 (F3_tr (F3_up (by omega)) (F3_up (by omega)))
          have hS1 : SR (upI (upI s 184 h (nI o)) 184 o (nI h)) 24 (kp w) R := SR_fr hS (f1.1 24 (by omega)) (f1.1 25 (by omega))
          rw [if_neg hpo, if_pos rfl, ix_nI (by omega) (by omega), gd_true, bd_eq, ix_nI (by omega) (by omega), gd_true, bd_eq, nI_clamp (by omega), nI_clamp (by omega), bd_eq, apart_c hS1 (by omega) (by omega), b1_some, eu, nI_add, nI_1, nI_1, B_shl (by omega), B_shl (by omega), B_or, B_or, Wo_b1]
          refine Wo_mono (ih (f := f) (h := h + 1) (by omega) (by omega) (IVp_pair hn hh hI hXt ho hlt hXo) (by omega) hS1) ?_
          rintro s' ⟨j1, j2, j3⟩
          have eT : nI (l + u) + pvS R (kn w) m (X ^^^ 2 ^ h ^^^ 2 ^ o) = nI l + gP R (kn w) m X o := by
            unfold gP
            rw [if_pos ho, eh, eu, ← nI_add]; grind
          have e183 : (upI (upI s 184 h (nI o)) 184 o (nI h)).1 183 = s.1 183 := by rw [rd_Ii (by omega), rd_Ii (by omega)]
          have e185 : (upI (upI s 184 h (nI o)) 184 o (nI h)).1 185 = s.1 185 := by rw [rd_Ii (by omega), rd_Ii (by omega)]
          rw [eT, e183, e185] at j3
          have hne : h ≠ o := by omega
          have j4 : GGp (kn w) 183 185 (s.1 183 2) (nI l + gP R (kn w) m X o) (fun i => if X.testBit i then pwB R (kn w) m X o i else μ.1 184 i) (s.1 185) s' := by
            refine GGp_ext j3 (fun i hi => ?_)
            rw [tb_xor, tb_xor]
            unfold pwB
            rw [if_pos ho, eh]
            by_cases h1 : i = h
            · subst h1
              rw [hXt, if_pos rfl, if_pos rfl, rd_Ik hne, rd_Is]
              simp [hne.symm]
            · by_cases h2 : i = o
              · subst h2
                rw [hXo, if_neg h1, if_pos rfl, if_pos rfl, rd_Is]
                simp [hne]
              · rw [if_neg h1, if_neg h2, rd_Ik h2, rd_Ik h1]
                have e1 : ¬ h = i := fun hx => h1 hx.symm
                have e2 : ¬ o = i := fun hx => h2 hx.symm
                cases hXi : X.testBit i with
                | true => simp [e1, e2]
                | false => simp [e1, e2]; exact i2 i hi hXi
          obtain ⟨b, e, g⟩ := GGp_step (Bf := fun b i => if X.testBit i then pwB R (kn w) m X b i else μ.1 184 i) hpP (by omega) hg i3 j4
          refine hrec s' ⟨by omega, F3_tr f1 j1, fun i hi hXi => ?_, ?_⟩
          · have n1 : i ≠ h := fun hx => by rw [hx, hXt] at hXi; cases hXi
            have n2 : i ≠ o := fun hx => by rw [hx, hXo] at hXi; cases hXi
            rw [j2 i hi (by rw [tb_xor, tb_xor, hXi]; simp [n1.symm, n2.symm]), rd_Ik n2, rd_Ik n1]
            exact i2 i hi hXi
          · rw [e]; exact g
      · rintro n' s ⟨hlt, i1, i2, i3⟩
        show Wo (fX2_pairFrom_s71 _ _ _ _ _ _ _ _ _ _) _
        unfold fX2_pairFrom_s71
        rw [if_pos (by rw [nI_leI (by omega) (by omega)]; omega)]
        show Wo (fX2_pairFrom_b150 _ _ _ _ _ _ s) _
        unfold fX2_pairFrom_b150
        rw [alone_c hn (by omega) hI, b1_some, pvS_s hn (by omega) hB hXt']
        have fin : ∀ s', GGp (kn w) 183 185 (μ.1 183 2) (nI l + gP R (kn w) m X (cP R (kn w) m X)) (fun i => if X.testBit i then pwB R (kn w) m X (cP R (kn w) m X) i else μ.1 184 i) (μ.1 185) s' → GGp (kn w) 183 185 (μ.1 183 2) (nI l + gP R (kn w) m X (cP R (kn w) m X)) (fun i => if X.testBit i then pwS R (kn w) (m + 1) X i else μ.1 184 i) (μ.1 185) s' := fun s' hg => GGp_ext hg (fun k hk => by rw [pwS_s hXt'])
        by_cases hodd : pcn X % 2 = 1
        · rw [if_pos hodd, if_neg n10, ix_nI (by omega) (by omega), gd_true, bd_eq, nI_clamp (by omega), nI_1, Wo_b1]
          have f1 : F3 μ (upI s 184 h (-2)) := F3_tr i1 (F3_up (by omega))
          refine Wo_mono (ih (f := f) (h := h + 1) (by omega) (by omega) (IVp_alone hn (by omega) hI hXt hodd) (by omega) (SR_fr hS (f1.1 24 (by omega)) (f1.1 25 (by omega)))) ?_
          rintro s' ⟨j1, j2, j3⟩
          rw [Wo_some]
          have eT : nI l + pvS R (kn w) m (X ^^^ 2 ^ h) = nI l + gP R (kn w) m X (kn w) := by
            unfold gP
            rw [if_neg (by omega), eh]
          have e183 : (upI s 184 h (-2)).1 183 = s.1 183 := rd_Ii (by omega)
          have e185 : (upI s 184 h (-2)).1 185 = s.1 185 := rd_Ii (by omega)
          rw [eT, e183, e185] at j3
          have j4 : GGp (kn w) 183 185 (s.1 183 2) (nI l + gP R (kn w) m X (kn w)) (fun i => if X.testBit i then pwB R (kn w) m X (kn w) i else μ.1 184 i) (s.1 185) s' := by
            refine GGp_ext j3 (fun i hi => ?_)
            rw [tb_xor]
            unfold pwB
            rw [if_neg (show ¬ kn w < kn w by omega), eh]
            by_cases h1 : i = h
            · subst h1
              rw [hXt, if_pos rfl, if_pos rfl, rd_Is]
              simp
            · rw [if_neg h1, rd_Ik h1]
              have e1 : ¬ h = i := fun hx => h1 hx.symm
              cases hXi : X.testBit i with
              | true => simp [e1]
              | false => simp [e1]; exact i2 i hi hXi
          obtain ⟨b, e, g⟩ := GGp_step (Bf := fun b i => if X.testBit i then pwB R (kn w) m X b i else μ.1 184 i) (by unfold pP; rw [if_neg (by omega), hodd]; rfl) (by omega) hg i3 j4
          rw [ca] at e
          cases e
          refine ⟨F3_tr f1 j1, fun i hi hXi => ?_, fin s' g⟩
          have n1 : i ≠ h := fun hx => by rw [hx, hXt] at hXi; cases hXi
          rw [j2 i hi (by rw [tb_xor, hXi]; simp [n1.symm]), rd_Ik n1]
          exact i2 i hi hXi
        · rw [if_neg hodd, if_pos rfl, Wo_some]
          have e := @alF_stepF (pP (kn w) m X) (gP R (kn w) m X) (kn w) (by unfold pP; rw [if_neg (by omega)]; simpa using hodd)
          rw [ca] at e
          rw [← e] at i3
          exact ⟨i1, i2, fin s i3⟩
      · rw [alF_allF]
        · exact ⟨rfl, rfl⟩
        · intro i hi
          unfold pP
          rw [if_pos (by omega), eh]
          have : ¬ h < i := by omega
          simp [this]
