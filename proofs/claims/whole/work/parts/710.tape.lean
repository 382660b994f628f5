theorem sh_24 (x : Int32) : (ushr x 24).toInt8 = (x >>> (24 &&& 31)).toInt8 := by
  apply Int8.toBitVec_inj.mp
  ext i hi
  have h1 : i < 32 := by omega
  have h2 : 24 + i < 32 := by omega
  simp [ushr, BitVec.getElem_signExtend, BitVec.getElem_sshiftRight, BitVec.getLsbD_sshiftRight, h1, h2]
theorem sh_16 (x : Int32) : (ushr x 16).toInt8 = (x >>> (16 &&& 31)).toInt8 := by
  apply Int8.toBitVec_inj.mp
  ext i hi
  have h1 : i < 32 := by omega
  have h2 : 16 + i < 32 := by omega
  simp [ushr, BitVec.getElem_signExtend, BitVec.getElem_sshiftRight, BitVec.getLsbD_sshiftRight, h1, h2]
theorem sh_8 (x : Int32) : (ushr x 8).toInt8 = (x >>> (8 &&& 31)).toInt8 := by
  apply Int8.toBitVec_inj.mp
  ext i hi
  have h1 : i < 32 := by omega
  have h2 : 8 + i < 32 := by omega
  simp [ushr, BitVec.getElem_signExtend, BitVec.getElem_sshiftRight, BitVec.getLsbD_sshiftRight, h1, h2]
theorem sh_0 (x : Int32) : (ushr x 0).toInt8 = (x >>> (0 &&& 31)).toInt8 := by
  apply Int8.toBitVec_inj.mp
  ext i hi
  have h1 : i < 32 := by omega
  simp [ushr, BitVec.getElem_signExtend, h1]
theorem byte_rng (x : Int32) : -128 ≤ x.toInt8.toInt32 ∧ x.toInt8.toInt32 ≤ 127 := by
  have h1 := Int8.le_toInt x.toInt8
  have h2 := Int8.toInt_lt x.toInt8
  constructor
  · rw [Int32.le_iff_toInt_le, Int8.toInt_toInt32]
    rw [show (-128 : Int32).toInt = -128 from by decide]; omega
  · rw [Int32.le_iff_toInt_le, Int8.toInt_toInt32]
    rw [show (127 : Int32).toInt = 127 from by decide]; omega
/-- only the tape changes -/
theorem REL_tp {μ ν μ' ν' : Mem} (h : REL μ ν) (hc : ∀ j, j ≠ 1 → j ≠ 2 → μ'.1 j = μ.1 j) (hc0 : μ'.1 1 16 = μ.1 1 16) (hc2 : μ'.2 = μ.2) (hm : ∀ j, j ≠ 0 → j ≠ 1 → ν'.1 j = ν.1 j) (hm0 : ∀ k, k ≠ 2 → ν'.1 0 k = ν.1 0 k) (hm2 : ν'.2 = ν.2) (ht : TP μ' ν') : REL μ' ν' := by
  obtain ⟨w, L, R, a1, a2, a3, a4, a5, a6, a7, a8, a9, a10, a11, a12⟩ := h
  refine ⟨w, L, R, a1, ?_, ?_, a4, ?_, ?_, ?_, ?_, ?_, ht, ?_, ?_⟩
  · exact QC_fr a2 (fun j _ _ => hc j (by omega) (by omega))
  · exact QL_fr a3 (fun j _ _ => hm j (by omega) (by omega)) (hm0 18 (by omega))
  · exact SF_fr a5 (hc 24 (by omega) (by omega)) (hc 25 (by omega) (by omega))
  · exact NR_fr a6 (hm 31 (by omega) (by omega))
  · exact HH_fr a7 (fun j _ _ => hc j (by omega) (by omega)) (hm 35 (by omega) (by omega)) (hm0 53 (by omega))
  · exact SS_fr a8 (fun j _ _ => hc j (by omega) (by omega)) (hm 47 (by omega) (by omega)) (hm 48 (by omega) (by omega))
  · exact TT_fr a9 (fun j _ _ => hc j (by omega) (by omega)) (fun j _ _ => hm j (by omega) (by omega)) (hm0 63 (by omega))
  · rw [hc0, hm0 17 (by omega)]; exact a11
  · exact WT_fr a12 (MqE_of (fun j hj => hc j (by omega) (by omega))) (by rw [hc2]) (by rw [hm2])
theorem r_place {μ ν : Mem} (h : REL μ ν) : ∃ (r : Int32), fX11_place μ = some r ∧ fX12_place ν = some r ∧ REL μ ν := by
  have h' := h
  obtain ⟨w, L, R, a1, a2, a3, a4, a5, a6, a7, a8, a9, a10, a11, a12⟩ := h'
  exact ⟨μ.1 1 16, rfl, by unfold fX12_place; rw [a11], h⟩
theorem r_back {μ ν : Mem} (h : REL μ ν) (z0 : Int32) : ∃ (r : Int32) (μ' : Mem) (ν' : Mem), fX11_back z0 μ = some (r, μ') ∧ fX12_back z0 ν = some (r, ν') ∧ REL μ' ν' := by
  have h' := h
  obtain ⟨w, L, R, a1, a2, a3, a4, a5, a6, a7, a8, a9, ⟨T, b1, b2, b3, b4⟩, a11, a12⟩ := h'
  unfold fX11_back fX12_back
  rw [b2, b3]
  by_cases h0 : z0 < 0
  · rw [if_pos h0, if_pos h0]; exact ⟨_, _, _, rfl, rfl, h⟩
  · rw [if_neg h0, if_neg h0]
    by_cases h1 : z0 ≤ nI T
    · rw [if_pos h1, if_pos h1]
      obtain ⟨j, hj, rfl⟩ := nI_of h0
      rw [nI_leI (by omega) (by omega)] at h1
      rw [pk_sub h1]
      refine ⟨nI (T - j), upI μ 1 15 (nI (T - j)), upI ν 0 2 (nI (T - j)), ?_, ?_, ?_⟩
      · rw [bd_eq, rd_Is]
      · rw [bd_eq, rd_Is]
      · refine REL_tp h (fun j a b => rd_Ii a) (rd_Ik (by omega)) rfl (fun j a b => rd_Ii a) (fun k a => rd_Ik a) rfl ⟨T - j, by omega, rd_Is, rd_Is, fun i hi => ?_⟩
        rw [rd_Ii (by omega), rd_Ii (by omega)]; exact b4 i (by omega)
    · rw [if_neg h1, if_neg h1]; exact ⟨_, _, _, rfl, rfl, h⟩

def TPn (T : Nat) (μ ν : Mem) : Prop := T ≤ 2000 ∧ μ.1 1 15 = nI T ∧ ν.1 0 2 = nI T ∧ ∀ i, i < T → μ.1 2 i = ν.1 1 i ∧ -128 ≤ μ.1 2 i ∧ μ.1 2 i ≤ 127
def Fk (b k : Nat) (μ μ' : Mem) : Prop := (∀ j, j ≠ b → j ≠ b + 1 → μ'.1 j = μ.1 j) ∧ (∀ i, i ≠ k → μ'.1 b i = μ.1 b i) ∧ μ'.2 = μ.2
theorem Fk_tr {B k : Nat} {a b c : Mem} (h : Fk B k a b) (h2 : Fk B k b c) : Fk B k a c := ⟨fun j x y => (h2.1 j x y).trans (h.1 j x y), fun i x => (h2.2.1 i x).trans (h.2.1 i x), h2.2.2.trans h.2.2⟩
theorem Fk_st {B k T : Nat} {μ : Mem} {b v : Int32} : Fk B k μ (upI (upI μ (B + 1) T b) B k v) := ⟨fun j x y => by rw [rd_Ii x, rd_Ii y], fun i x => by rw [rd_Ik x, rd_Ii (by omega)], rfl⟩
theorem TPn_st {T : Nat} {μ ν : Mem} {b : Int32} (h : TPn T μ ν) (hT : T < 2000) (hb : -128 ≤ b ∧ b ≤ 127) : TPn (T + 1) (upI (upI μ 2 T b) 1 15 (nI (T + 1))) (upI (upI ν 1 T b) 0 2 (nI (T + 1))) := by
  refine ⟨by omega, rd_Is, rd_Is, fun i hi => ?_⟩
  simp (disch := omega) only [rd_Ii]
  by_cases he : i = T
  · subst he; simp only [rd_Is]; exact ⟨trivial, hb⟩
  · simp only [rd_Ik he]; exact h.2.2.2 i (by omega)
theorem put_step {T : Nat} {μ ν : Mem} (x s : Int32) (hs : ¬ s < 0) (hb : (ushr x s).toInt8 = (x >>> (s &&& 31)).toInt8) (h : TPn T μ ν) (hT : T < 2000) : ∃ μ' ν', (∀ n, fX11_putWord_l3 x (n + 1) s μ = fX11_putWord_l3 x n (s + (-8)) μ') ∧ (∀ n, fX12_put_l3 x (n + 1) s ν = fX12_put_l3 x n (s + (-8)) ν') ∧ TPn (T + 1) μ' ν' ∧ Fk 1 15 μ μ' ∧ Fk 0 2 ν ν' := by
  refine ⟨_, _, fun n => ?_, fun n => ?_, TPn_st (b := ((x >>> (s &&& 31)).toInt8.toInt32).toInt8.toInt32) h hT (byte_rng _), Fk_st (B := 1), Fk_st (B := 0)⟩
  · show fX11_putWord_s3 _ _ _ _ = _
    unfold fX11_putWord_s3
    rw [if_neg hs, h.2.1, if_neg (by simp (disch := omega) only [L_add, L_add2, L_mul, L_mul2, L_sub, nI_add, pk_mul, pk_sub, L_le, L_le2, L_lt, L_lt2, L_eq, L_eq2, nI_leI, nI_ltI, nI_eq, nI_clamp, ix_nI, ix_lit, L_cl]; omega), ix_nI hT (by omega), gd_true, bd_eq, bd_eq, nI_clamp (by omega), rd_Ii (by omega), h.2.1, nI_1, hb]
  · show fX12_put_s3 _ _ _ _ = _
    unfold fX12_put_s3
    rw [if_neg hs, h.2.2.1, ix_nI hT (by omega), gd_true, bd_eq, bd_eq, nI_clamp (by omega), rd_Ii (by omega), h.2.2.1, nI_1]
theorem put_both {T : Nat} {μ ν : Mem} (x : Int32) (h : TPn T μ ν) (hT : T + 4 ≤ 2000) : ∃ μ' ν', fX11_putWord x μ = some μ' ∧ fX12_put x ν = some ν' ∧ TPn (T + 4) μ' ν' ∧ Fk 1 15 μ μ' ∧ Fk 0 2 ν ν' := by
  obtain ⟨μ1, ν1, a1, a2, a3, a4, a5⟩ := put_step x 24 (by decide) (sh_24 x) h (by omega)
  obtain ⟨μ2, ν2, b1, b2, b3, b4, b5⟩ := put_step x 16 (by decide) (sh_16 x) a3 (by omega)
  obtain ⟨μ3, ν3, c1, c2, c3, c4, c5⟩ := put_step x 8 (by decide) (sh_8 x) b3 (by omega)
  obtain ⟨μ4, ν4, d1, d2, d3, d4, d5⟩ := put_step x 0 (by decide) (sh_0 x) c3 (by omega)
  have e1 : (24 : Int32) + (-8) = 16 := by decide
  have e2 : (16 : Int32) + (-8) = 8 := by decide
  have e3 : (8 : Int32) + (-8) = 0 := by decide
  have e4 : (0 : Int32) + (-8) = -8 := by decide
  refine ⟨μ4, ν4, ?_, ?_, d3, Fk_tr a4 (Fk_tr b4 (Fk_tr c4 d4)), Fk_tr a5 (Fk_tr b5 (Fk_tr c5 d5))⟩
  · unfold fX11_putWord FU
    rw [a1, e1, b1, e2, c1, e3, d1, e4]
    show fX11_putWord_s3 _ _ _ _ = _
    unfold fX11_putWord_s3
    rw [if_pos (by decide)]
  · unfold fX12_put FU
    rw [a2, e1, b2, e2, c2, e3, d2, e4]
    show fX12_put_s3 _ _ _ _ = _
    unfold fX12_put_s3
    rw [if_pos (by decide)]
theorem r_feed {μ ν : Mem} (h : REL μ ν) (z0 : Int32) (z1 : Int32) (z2 : Int32) (z3 : Int32) (z4 : Int32) : ∃ (r : Int32) (μ' : Mem) (ν' : Mem), fX11_feed z0 z1 z2 z3 z4 μ = some (r, μ') ∧ fX12_feed z0 z1 z2 z3 z4 ν = some (r, ν') ∧ REL μ' ν' := by
  have h' := h
  obtain ⟨w, L, R, a1, a2, a3, a4, a5, a6, a7, a8, a9, ⟨T, b1, b2, b3, b4⟩, a11, a12⟩ := h'
  unfold fX11_feed fX12_feed
  rw [b2, b3]
  by_cases h1 : nI T + 20 ≤ 2000
  · rw [if_pos h1, if_pos h1]
    rw [L_add, L_le2 (by omega) (by omega)] at h1
    obtain ⟨m1, n1, c1, d1, t1, f1, g1⟩ := put_both z0 (T := T) (μ := μ) (ν := ν) ⟨b1, b2, b3, b4⟩ (by omega)
    obtain ⟨m2, n2, c2, d2, t2, f2, g2⟩ := put_both z1 t1 (by omega)
    obtain ⟨m3, n3, c3, d3, t3, f3, g3⟩ := put_both z2 t2 (by omega)
    obtain ⟨m4, n4, c4, d4, t4, f4, g4⟩ := put_both z3 t3 (by omega)
    obtain ⟨m5, n5, c5, d5, t5, f5, g5⟩ := put_both z4 t4 (by omega)
    have f := Fk_tr f1 (Fk_tr f2 (Fk_tr f3 (Fk_tr f4 f5)))
    have g := Fk_tr g1 (Fk_tr g2 (Fk_tr g3 (Fk_tr g4 g5)))
    refine ⟨nI (T + 4 + 4 + 4 + 4 + 4), m5, n5, ?_, ?_, ?_⟩
    · rw [c1, b1_some, c2, b1_some, c3, b1_some, c4, b1_some, c5, b1_some, t5.2.1]
    · rw [d1, b1_some, d2, b1_some, d3, b1_some, d4, b1_some, d5, b1_some, t5.2.2.1]
    · exact REL_tp h f.1 (f.2.1 16 (by omega)) f.2.2 g.1 g.2.1 g.2.2 ⟨_, t5⟩
  · rw [if_neg h1, if_neg h1]; exact ⟨_, _, _, rfl, rfl, h⟩
