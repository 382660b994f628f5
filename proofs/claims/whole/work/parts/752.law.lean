abbrev Bs : Type := List (Cd × Cd × Cd)
def LayC (μ : Mem) (q sz : Nat) : Bs → Nat → Cd → Prop
  | [], i, cf => SegC μ q i cf ∧ μ.1 (q + 1) (i + cf.length) = 15 ∧ i + cf.length < sz
  | (c1, c2, c3) :: bs, i, cf => SegC μ q i c1 ∧ SegC μ q (i + c1.length) c2 ∧ μ.1 (q + 1) (i + c1.length + c2.length) = 14 ∧ μ.1 (q + 2) (i + c1.length + c2.length) = nI (i + c1.length + c2.length + c3.length + 2) ∧ SegC μ q (i + c1.length + c2.length + 1) c3 ∧ μ.1 (q + 1) (i + c1.length + c2.length + 1 + c3.length) = 15 ∧ LayC μ q sz bs (i + c1.length + c2.length + c3.length + 2) cf
def EXL (bs : Bs) (cf : Cd) : Prop := (∀ b ∈ bs, EX 15 b.1 ∧ EX 15 b.2.1 ∧ EX 15 b.2.2) ∧ EX 15 cf
theorem LayC_lt {μ : Mem} {q sz : Nat} {bs : Bs} {i : Nat} {cf : Cd} (h : LayC μ q sz bs i cf) : i < sz := by
  induction bs generalizing i with
  | nil => have := h.2.2; omega
  | cons b bs ih =>
    obtain ⟨c1, c2, c3⟩ := b
    have := ih h.2.2.2.2.2.2
    omega
theorem SegC_fr {μ μ' : Mem} {q i : Nat} {c : Cd} (h : SegC μ q i c) (h1 : μ'.1 (q + 1) = μ.1 (q + 1)) (h2 : μ'.1 (q + 2) = μ.1 (q + 2)) : SegC μ' q i c := by
  intro k p hp
  rw [h1, h2]
  exact h k p hp
theorem LayC_fr {μ μ' : Mem} {q sz : Nat} {bs : Bs} {i : Nat} {cf : Cd} (h : LayC μ q sz bs i cf) (h1 : μ'.1 (q + 1) = μ.1 (q + 1)) (h2 : μ'.1 (q + 2) = μ.1 (q + 2)) : LayC μ' q sz bs i cf := by
  induction bs generalizing i with
  | nil => exact ⟨SegC_fr h.1 h1 h2, by rw [h1]; exact h.2.1, h.2.2⟩
  | cons b bs ih =>
    obtain ⟨c1, c2, c3⟩ := b
    obtain ⟨a1, a2, a3, a4, a5, a6, a7⟩ := h
    exact ⟨SegC_fr a1 h1 h2, SegC_fr a2 h1 h2, by rw [h1]; exact a3, by rw [h2]; exact a4, SegC_fr a5 h1 h2, by rw [h1]; exact a6, ih a7⟩
/-- the class's end of a law -/
def KvC : Int32 → Mem → Option (Int32 × Mem) := fun y27 μ28 => (if y27 ≤ 0 then some (0, μ28) else gd (ix (y27 - 1) 32) (some (μ28.1 (19 + 4) ((y27 - 1).toNatClampNeg), μ28)))
theorem StC_nil {μ : Mem} {j : Nat} : StC μ j [] := fun i x h => by simp at h
theorem ans_c {q2 h i n sz : Nat} {μ μ0 : Mem} {x : Int32} {Q : Int32 × Mem → Prop} (hf : F23 μ0 μ) (hsz : μ0.1 19 4 = nI sz) (hs4 : sz ≤ 416) (hi : i < sz) (h15 : μ0.1 20 i = 15) (hst : StC μ 23 [x]) (hn : 0 < n) (hQ : Q (x, μ)) : Wo (fX1_valueOf_l31 KvC 19 q2 (nI h) n (nI 1) (nI i) μ) Q := by
  obtain ⟨n, rfl⟩ : ∃ n', n = n' + 1 := ⟨n - 1, by omega⟩
  show Wo (fX1_valueOf_s31 _ _ _ _ _ _ _ _) _
  unfold fX1_valueOf_s31
  rw [hf.1 19 (by omega), hsz, if_neg (by rw [nI_leI (by omega) (by omega)]; omega), ix_nI (by omega) (by omega), gd_true, nI_clamp (by omega), bd_eq, show 19 + 1 = 20 from rfl, hf.1 20 (by omega), h15, if_pos (by decide), if_pos rfl]
  unfold KvC
  have := hst 0 x rfl
  rw [if_neg (by decide), show nI 1 - 1 = nI 0 from by decide, ix_nI (by omega) (by omega), gd_true, Wo_some, nI_clamp (by omega)]
  rw [show 19 + 4 = 23 from rfl, show μ.1 23 0 = x from this]
  exact hQ
theorem lawrun {q2 h sz : Nat} {pan R : Rw} {μ0 : Mem} (hq : 24 ≤ q2) (hh : h < 6) (hsz : μ0.1 19 4 = nI sz) (hs4 : sz ≤ 416) (hS : SR μ0 q2 pan R) {bs : Bs} {cf : Cd} : ∀ {i n : Nat} {μ : Mem}, LayC μ0 19 sz bs i cf → EXL bs cf → F23 μ0 μ → sz + 1 < n + i → Wo (fX1_valueOf_l31 KvC 19 q2 (nI h) n (nI 0) (nI i) μ) (fun p => p.1 = lvL (HV pan R h) bs cf ∧ F23 μ0 p.2) := by
  induction bs with
  | nil =>
    intro i n μ hL hE hf hn
    obtain ⟨a1, a2, a3⟩ := hL
    have hrn := EX_rn (v := HV pan R h) hE.2 []
    refine crun (lo := 0) (s := []) (d' := 1) hq hh hsz hs4 hS a1 (by omega) (hE.2 0 32 (by omega)) (by decide) StC_nil hf (by omega) ?_ ?_
    · intro e μ' hf'
      rw [hrn] at e
      cases ev : ev1 (HV pan R h) cf with
      | none =>
        refine ⟨?_, hf'⟩
        show (0 : Int32) = (ev1 (HV pan R h) cf).getD 0
        rw [ev]; rfl
      | some x => rw [ev] at e; cases e
    · intro s' e hl μ' n' hf' hst' hn'
      rw [hrn] at e
      cases ev : ev1 (HV pan R h) cf with
      | none => rw [ev] at e; cases e
      | some x =>
        rw [ev] at e
        cases e
        refine ans_c hf' hsz hs4 a3 a2 hst' (by omega) ⟨?_, hf'⟩
        show x = (ev1 (HV pan R h) cf).getD 0
        rw [ev]; rfl
  | cons b bs ih =>
    intro i n μ hL hE hf hn
    obtain ⟨c1, c2, c3⟩ := b
    obtain ⟨a1, a2, a3, a4, a5, a6, a7⟩ := hL
    have hlt := LayC_lt a7
    have hE1 := hE.1 (c1, c2, c3) (List.mem_cons_self ..)
    have hE2 : EXL bs cf := ⟨fun b hb => hE.1 b (List.mem_cons_of_mem _ hb), hE.2⟩
    have r1 := EX_rn (v := HV pan R h) hE1.1 []
    have elv : lvL (HV pan R h) ((c1, c2, c3) :: bs) cf = (match ev1 (HV pan R h) c1, ev1 (HV pan R h) c2 with | some x, some y => if x < y then (ev1 (HV pan R h) c3).getD 0 else lvL (HV pan R h) bs cf | _, _ => 0) := rfl
    refine crun (lo := 0) (s := []) (d' := 1) hq hh hsz hs4 hS a1 (by omega) (hE1.1 0 32 (by omega)) (by decide) StC_nil hf (by omega) ?_ ?_
    · intro e μ' hf'
      rw [r1] at e
      cases ev : ev1 (HV pan R h) c1 with
      | none =>
        refine ⟨?_, hf'⟩
        rw [elv, ev]
      | some x => rw [ev] at e; cases e
    · intro s' e hl μ1 n1 hf1 hst1 hn1
      rw [r1] at e
      cases ev : ev1 (HV pan R h) c1 with
      | none => rw [ev] at e; cases e
      | some x =>
        rw [ev] at e elv
        cases e
        have r2 := EX_rn (v := HV pan R h) hE1.2.1 [x]
        refine crun (lo := 0) (s := [x]) (d' := 2) hq hh hsz hs4 hS a2 (by omega) (dpx_mono (Nat.zero_le 1) (Nat.le_refl _) (hE1.2.1 1 32 (by omega))) (by show 1 ≤ 32; omega) hst1 hf1 (by omega) ?_ ?_
        · intro e μ' hf'
          rw [r2] at e
          cases ev2 : ev1 (HV pan R h) c2 with
          | none =>
            refine ⟨?_, hf'⟩
            rw [elv, ev2]
          | some y => rw [ev2] at e; cases e
        · intro s' e hl2 μ2 n2 hf2 hst2 hn2
          rw [r2] at e
          cases ev2 : ev1 (HV pan R h) c2 with
          | none => rw [ev2] at e; cases e
          | some y =>
            rw [ev2] at e elv
            cases e
            dsimp only at elv
            have hab := StC_ab hst2
            rw [List.length_nil] at hab
            obtain ⟨n2, rfl⟩ : ∃ n', n2 = n' + 1 := ⟨n2 - 1, by omega⟩
            show Wo (fX1_valueOf_s31 (fX1_valueOf_l31 KvC 19 q2 (nI h) n2) KvC 19 q2 (nI h) (nI 2) (nI (i + c1.length + c2.length)) μ2) _
            unfold fX1_valueOf_s31
            rw [hf2.1 19 (by omega), hsz, if_neg (by rw [nI_leI (by omega) (by omega)]; omega), ix_nI (by omega) (by omega), gd_true, nI_clamp (by omega), bd_eq, show 19 + 1 = 20 from rfl, hf2.1 20 (by omega), a3, if_pos (by decide), if_neg (by decide), if_pos (by decide), show nI 2 + (-2) = nI 0 from by decide, ix_nI (by omega) (by omega), gd_true, nI_1, ix_nI (by omega) (by omega), nI_clamp (by omega), nI_clamp (by omega), bd_eq, gd_true, bd_eq, show 19 + 4 = 23 from rfl, hab.1, hab.2, if_pos rfl]
            refine Wo_if (fun hc => ?_) (fun hc => ?_)
            · have ej : jmax (nI (i + c1.length + c2.length)) (μ2.1 (19 + 2) (i + c1.length + c2.length) - 1) = nI (i + c1.length + c2.length + c3.length + 1) := by
                rw [hf2.1 (19 + 2) (by omega), a4, L_sub (by omega)]
                unfold jmax
                rw [if_pos (by rw [nI_ltI (by omega) (by omega)]; omega), show i + c1.length + c2.length + c3.length + 2 - 1 = i + c1.length + c2.length + c3.length + 1 by omega]
              rw [gd_true, bd_eq, ej, nI_1]
              have hnext := ih (n := n2) (μ := μ2) a7 hE2 hf2 (by omega)
              rw [if_neg (by grind)] at elv
              rw [elv]
              exact hnext
            · rw [if_pos (by grind)] at elv
              rw [nI_1]
              have r3 := EX_rn (v := HV pan R h) hE1.2.2 []
              refine crun (lo := 0) (s := []) (d' := 1) hq hh hsz hs4 hS a5 (by omega) (hE1.2.2 0 32 (by omega)) (by decide) StC_nil hf2 (by omega) ?_ ?_
              · intro e μ' hf'
                rw [r3] at e
                cases ev3 : ev1 (HV pan R h) c3 with
                | none =>
                  refine ⟨?_, hf'⟩
                  rw [elv, ev3]; rfl
                | some z => rw [ev3] at e; cases e
              · intro s' e hl3 μ3 n3 hf3 hst3 hn3
                rw [r3] at e
                cases ev3 : ev1 (HV pan R h) c3 with
                | none => rw [ev3] at e; cases e
                | some z =>
                  rw [ev3] at e
                  cases e
                  refine ans_c hf3 hsz hs4 (by omega) a6 hst3 (by omega) ⟨?_, hf3⟩
                  rw [elv, ev3]; rfl
/-- the laws of the class, as they lie in its code -/
theorem LawC_of {μ : Mem} {sz : Nat} {D : Nat → Bs × Cd} (hsz : μ.1 19 4 = nI sz) (hs4 : sz ≤ 416) (h : ∀ k, k < 4 → ∃ i, μ.1 22 k = nI i ∧ LayC μ 19 sz (D k).1 i (D k).2 ∧ EXL (D k).1 (D k).2) : LawC μ (fun k v => lvL v (D k).1 (D k).2) := by
  intro μ' hf k q hh hk hq hh6 pan R hS
  obtain ⟨i, e1, e2, e3⟩ := h k hk
  have hi := LayC_lt e2
  unfold fX1_valueOf
  rw [if_neg (nI_pos (by omega)), if_neg (by simp (disch := omega) only [L_add, L_add2, L_mul, L_mul2, L_sub, nI_add, pk_mul, pk_sub, L_le, L_le2, L_lt, L_lt2, L_eq, L_eq2, nI_leI, nI_ltI, nI_eq, nI_clamp, ix_nI, ix_lit, L_cl]; omega), ix_nI (by omega) (by omega), gd_true, nI_clamp (by omega), show 19 + 3 = 22 from rfl, hf 22 (by omega) (by omega), e1]
  unfold fX1_valueOf_b25
  refine Wo_mono (lawrun (n := FU) (μ := μ') hq hh6 (by rw [hf 19 (by omega) (by omega)]; exact hsz) hs4 hS (LayC_fr e2 (hf 20 (by omega) (by omega)) (hf 21 (by omega) (by omega))) e3 F23_rfl (by unfold FU; omega)) ?_
  rintro ⟨r, s⟩ ⟨k1, k2⟩
  exact ⟨k1, k2.1, k2.2⟩
