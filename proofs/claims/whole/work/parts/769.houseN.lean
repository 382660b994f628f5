theorem ntd_or {w : Option (Nat × Nat)} {c1 c2 : Bool} {x t : Nat} : ntd (ntd w c1 x t) c2 x t = ntd w (c1 || c2) x t := by
  cases w <;> cases c1 <;> cases c2 <;> rfl
theorem ntd_at {w : Option (Nat × Nat)} {c : Bool} {x t y t1 : Nat} (h : ntd w c x t = some (y, t1)) : w = some (y, t1) ∨ (y = x ∧ t1 = t) := by
  cases w with
  | some z => exact Or.inl h
  | none =>
    cases c with
    | false => cases h
    | true => cases h; exact Or.inr ⟨rfl, rfl⟩
theorem wNo_lt {tv : Nat → Int32} {w : Option (Nat × Nat)} {t : Nat} (hw : ∀ y t1, w = some (y, t1) → t1 < t) {i : Nat} : ∀ {y t1 : Nat}, wNo tv w t i = some (y, t1) → t1 < t + i := by
  induction i with
  | zero => intro y t1 h; exact hw y t1 h
  | succ i ih =>
    intro y t1 h
    rcases ntd_at h with h | ⟨_, h⟩
    · have := ih h; omega
    · omega
def SHm (tv : Nat → Int32) (pl : Nat → Int32) (sd : Nat) (ν0 : Mem) (t h : Nat) (w : Option (Nat × Nat)) (i : Nat) (ν : Mem) : Prop := ν.1 0 13 = 0 ∧ ν.1 0 11 = nI (t + i) ∧ NTm pl (wNo tv w t i) ν ∧ (∀ j, j < i → ν.1 (10 + j) (6 * sd + h) = tv (t + j)) ∧ (∀ j, 10 ≤ j → j ≤ 14 → ∀ k, k ≠ 6 * sd + h → ν.1 j k = ν0.1 j k) ∧ ν.1 9 = ν0.1 9 ∧ (∀ j, 15 ≤ j → j ≤ 18 → ν.1 j = ν0.1 j) ∧ ν.2 = ν0.2 ∧ FHm sd ν0 ν
theorem hm_m {tk : Nat → Nat} {tv : Nat → Int32} {tn : Nat → Int64} {pl : Nat → Int32} {e : Nat} {t h sd : Nat} {w : Option (Nat × Nat)} {ν0 : Mem} {x2 : Int32} {Q : Mem → Prop} (hT : TE tk e) (hP : PLm pl e) (hK : TKm tk tv tn pl e ν0) (hh : h < 6) (hsd : sd < 2) (hw : ∀ y t1, w = some (y, t1) → t1 < t) {r : Nat} : ∀ {i : Nat} {ν : Mem}, r + i = 5 → t + i ≤ e → SHm tv pl sd ν0 t h w i ν → (∀ x t' ν', pKs tk (List.replicate r 2) (t + i) = .error (x, t') → FSm pl sd ν0 x t' ν' → Q ν') → (∀ ν', pKs tk (List.replicate r 2) (t + i) = .ok (t + 5) → t + 5 ≤ e → SHm tv pl sd ν0 t h w 5 ν' → Wo (K82 x2 ν') Q) → Wo (HMx (6 * sd + h) (K82 x2) r i ν) Q := by
  have h400 := hT.1
  induction r with
  | zero =>
    intro i ν hi ht hS herr hok
    have hi5 : i = 5 := by omega
    subst hi5
    exact hok ν rfl ht hS
  | succ r ih =>
    intro i ν hi ht hS herr hok
    show Wo (b2 (fX12_bounded (xLEAST i) (xMOST i) ν) (fun r' ν1 => gd (ix (nI (6 * sd + h)) 12) (bd (upI ν1 (10 + i) (nI (6 * sd + h)).toNatClampNeg r') (fun ν2 => HMx (6 * sd + h) (K82 x2) r (i + 1) ν2)))) Q
    obtain ⟨s1, s2, s3, s4, s5, s6, s7, s8, s9⟩ := hS
    have hp : pKs tk (List.replicate (r + 1) 2) (t + i) = exB (pTk tk 2 (t + i)) (fun t => pKs tk (List.replicate r 2) t) := rfl
    refine bndM (tv := tv) (w := wNo tv w t i) hT hP (TKm_FH hK s9) s1 s2 ht s3 (fun y t1 hq => wNo_lt hw hq) (fun x y ν1 hx hq g13 g14 f1 => ?_) (fun ν1 hq m1 g13 g11 gn f1 => ?_)
    · rw [ix_nI (by omega) (by omega), gd_true, nI_clamp (by omega), bd_eq]
      rw [hq] at hp
      refine hm_f (pl := pl) (ν0 := ν0) (x := x) (t' := t + i) hx hsd hh (fun ν' hF => herr x (t + i) ν' (by rw [hp]; rfl) hF) (by omega) ⟨by rw [rd_Ii (by omega)]; exact g13, by rw [rd_Ii (by omega)]; exact g14, FHm_tr s9 (FHm_tr (FHm_FN f1) (FHm_a (by omega) (by omega)))⟩
    · rw [ix_nI (by omega) (by omega), gd_true, nI_clamp (by omega), bd_eq]
      rw [hq, exB_ok] at hp
      refine ih (by omega) (by omega) ⟨by rw [rd_Ii (by omega)]; exact g13, by rw [rd_Ii (by omega)]; exact g11, NTm_fr gn (by rw [rd_Ii (by omega)]) (by rw [rd_Ii (by omega)]), fun j hj => ?_, fun j a b k c => ?_, ?_, fun j a b => ?_, f1.2.2.trans s8, FHm_tr s9 (FHm_tr (FHm_FN f1) (FHm_a (by omega) (by omega)))⟩ (fun x t' ν' hq' => herr x t' ν' (by rw [hp]; exact hq')) (fun ν' hq' => hok ν' (by rw [hp]; exact hq'))
      · by_cases hji : j = i
        · subst hji; rw [rd_Is]
        · rw [rd_Ii (by omega), f1.1 _ (by omega)]; exact s4 j (by omega)
      · by_cases hji : j = 10 + i
        · subst hji; rw [rd_Ik c, f1.1 _ (by omega)]; exact s5 _ a b k c
        · rw [rd_Ii hji, f1.1 j (by omega)]; exact s5 j a b k c
      · rw [rd_Ii (by omega), f1.1 9 (by omega)]; exact s6
      · rw [rd_Ii (by omega), f1.1 j (by omega)]; exact s7 j a b
theorem nl_m {tk : Nat → Nat} {tv : Nat → Int32} {tn : Nat → Int64} {pl : Nat → Int32} {e : Nat} {t h sd : Nat} {nm : Nat → Int64} {ν0 : Mem} {K : Mem → Option Mem} {Q : Mem → Prop} (hT : TE tk e) (hP : PLm pl e) (hK : TKm tk tv tn pl e ν0) (hh : h ≤ 6) (hsd : sd < 2) (h19 : ν0.1 0 19 = nI sd) (h9 : ν0.1 9 sd = nI h) (ht : t ≤ e) (hk : tk t = 1) (hn : ∀ i, i < h → ν0.2 8 i = nm i) {r : Nat} : ∀ {i N : Nat} {w : Option (Nat × Nat)} {ν : Mem}, r + i = h → h < N + i → FNm ν0 ν → ν.1 0 13 = 0 → NTm pl w ν → (∀ y t1, w = some (y, t1) → t1 < t ∨ (t1 = t ∧ y = 3)) → (∀ ν', FNm ν0 ν' → ν'.1 0 13 = 0 → ν'.1 0 11 = ν.1 0 11 → NTm pl (ntd w (dupF nm (tn t) r i) 3 t) ν' → Wo (K ν') Q) → Wo (fX12_tellHouse_l34 K (nI t) N (nI i) ν) Q := by
  have h400 := hT.1
  induction r with
  | zero =>
    intro i N w ν hi hN f h13 hw hb hok
    obtain ⟨N, rfl⟩ : ∃ n', N = n' + 1 := ⟨N - 1, by omega⟩
    rw [n34_s]
    unfold fX12_tellHouse_s34
    rw [f.2.1 19 (by omega) (by omega), h19, ix_nI (by omega) (by omega), gd_true, nI_clamp (by omega), f.1 9 (by omega), h9, if_pos (by simp (disch := omega) only [L_add, L_add2, L_mul, L_mul2, L_sub, nI_add, pk_mul, pk_sub, L_le, L_le2, L_lt, L_lt2, L_eq, L_eq2, nI_leI, nI_ltI, nI_eq, nI_clamp, ix_nI, ix_lit, L_cl]; omega)]
    refine hok ν f h13 rfl ?_
    rw [show dupF nm (tn t) 0 i = false from rfl, ntd_f]
    exact hw
  | succ r ih =>
    intro i N w ν hi hN f h13 hw hb hok
    obtain ⟨N, rfl⟩ : ∃ n', N = n' + 1 := ⟨N - 1, by omega⟩
    rw [n34_s]
    unfold fX12_tellHouse_s34
    have hK1 := TKm_FN hK f
    rw [f.2.1 19 (by omega) (by omega), h19, ix_nI (by omega) (by omega), gd_true, nI_clamp (by omega), f.1 9 (by omega), h9, if_neg (by simp (disch := omega) only [L_add, L_add2, L_mul, L_mul2, L_sub, nI_add, pk_mul, pk_sub, L_le, L_le2, L_lt, L_lt2, L_eq, L_eq2, nI_leI, nI_ltI, nI_eq, nI_clamp, ix_nI, ix_lit, L_cl]; omega), h13, if_pos rfl, ix_nI (by omega) (by omega), gd_true, ix_nI (by omega) (by omega), gd_true, nI_clamp (by omega), nI_clamp (by omega), f.2.2, hn i (by omega), (hK t ht).2.2.2 hk, nI_1]
    have hd : dupF nm (tn t) (r + 1) i = (decide (lg_cmp (nm i) (tn t) = 0) || dupF nm (tn t) r (i + 1)) := rfl
    by_cases hc : lg_cmp (nm i) (tn t) = 0
    · rw [if_pos hc, show (3 : Int32) = nI 3 from rfl]
      refine wrongM hT hP hK1 h13 ht (Or.inl rfl) hw hb (fun ν1 n1 f1 g13 g11 => ?_)
      refine ih (by omega) (by omega) (FNm_tr f f1) g13 n1 (fun y t1 hq => ?_) (fun ν' a b c d => ?_)
      · rcases ntd_at hq with hq | ⟨a, b⟩
        · exact hb y t1 hq
        · exact Or.inr ⟨b, a⟩
      · refine hok ν' a b (c.trans g11) ?_
        rw [ntd_or] at d
        rw [hd, decide_eq_true hc]
        exact d
    · rw [if_neg hc]
      refine ih (by omega) (by omega) f h13 hw hb (fun ν' a b c d => hok ν' a b c ?_)
      rw [hd, decide_eq_false hc, Bool.false_or]
      exact d
def RHm (tk : Nat → Nat) (tv : Nat → Int32) (tn : Nat → Int64) (pl : Nat → Int32) (nm : Nat → Int64) (sd t h : Nat) (w : Option (Nat × Nat)) (ν : Mem) (r : Except (Nat × Nat) Nat) (ν' : Mem) : Prop := match r with
  | .error (x, t') => FSm pl sd ν x t' ν'
  | .ok _ => ν'.1 0 13 = 0 ∧ ν'.1 0 11 = nI (t + 8) ∧ NTm pl (wNo tv (ntd w (dupF nm (tn (t + 1)) h 0) 3 (t + 1)) (t + 2) 5) ν' ∧ ν'.1 9 sd = nI (h + 1) ∧ (∀ j, j < 5 → ν'.1 (10 + j) (6 * sd + h) = tv (t + 2 + j)) ∧ (∀ j, 10 ≤ j → j ≤ 14 → ∀ k, k ≠ 6 * sd + h → ν'.1 j k = ν.1 j k) ∧ (∀ j, 15 ≤ j → j ≤ 18 → ν'.1 j = ν.1 j) ∧ ν'.2 8 h = tn (t + 1) ∧ (∀ i, i ≠ h → ν'.2 8 i = ν.2 8 i) ∧ FHm sd ν ν'
theorem tellHouse_m {tk : Nat → Nat} {tv : Nat → Int32} {tn : Nat → Int64} {pl : Nat → Int32} {e : Nat} {t h sd : Nat} {nm : Nat → Int64} {w : Option (Nat × Nat)} {ν : Mem} (hT : TE tk e) (hP : PLm pl e) (hK : TKm tk tv tn pl e ν) (hh : h < 6) (hsd : sd < 2) (h13 : ν.1 0 13 = 0) (h11 : ν.1 0 11 = nI t) (h19 : ν.1 0 19 = nI sd) (h9 : ν.1 9 sd = nI h) (ht : t ≤ e) (hk : tk t = 20) (hn : ∀ i, i < h → ν.2 8 i = nm i) (hw : NTm pl w ν) (hb : ∀ y t1, w = some (y, t1) → t1 < t) : Wo (fX12_tellHouse ν) (RHm tk tv tn pl nm sd t h w ν (pHs tk t)) := by
  have h400 := hT.1
  unfold fX12_tellHouse
  have ei : 6 * nI sd + nI h = nI (6 * sd + h) := by simp (disch := omega) only [L_add, L_add2, L_mul, L_mul2, L_sub, nI_add, pk_mul, pk_sub, L_le, L_le2, L_lt, L_lt2, L_eq, L_eq2, nI_leI, nI_ltI, nI_eq, nI_clamp, ix_nI, ix_lit, L_cl]
  by_cases h4 : t < 400
  · have p1 := pTk_t hk h4
    have m1 := TE_nx hT ht h4 (by omega) (by omega)
    have hp : pHs tk t = p95 tk (t + 1) := by unfold pHs; rw [p1, exB_ok]; rfl
    rw [goesOn_ok h11 h4, b1_some]
    have f1 : FNm ν (upI ν 0 11 (nI (t + 1))) := FNm_0 (Or.inl rfl)
    generalize hν1 : upI ν 0 11 (nI (t + 1)) = ν1
    rw [hν1] at f1
    have g13 : ν1.1 0 13 = 0 := by rw [← hν1, rd_Ik (by omega)]; exact h13
    have g11 : ν1.1 0 11 = nI (t + 1) := by rw [← hν1, rd_Is]
    have g19 : ν1.1 0 19 = nI sd := by rw [f1.2.1 19 (by omega) (by omega)]; exact h19
    have g9 : ν1.1 9 sd = nI h := by rw [f1.1 9 (by omega)]; exact h9
    have gw : NTm pl w ν1 := NTm_fr hw (by rw [← hν1, rd_Ik (by omega)]) (by rw [← hν1, rd_Ik (by omega)])
    rw [g19, ix_nI (by omega) (by omega), gd_true, nI_clamp (by omega), g9, ei, bd_eq, g11, bd_eq, show (1 : Int32) = nI 1 from rfl]
    refine mstM hT (TKm_FN hK f1) g13 g11 m1 (by omega) (by omega) (by omega) (fun x hx hq => ?_) (fun hq k1 _ m2 => ?_)
    · rw [show FU = 99999 + 1 from rfl]
      have f2 : FNm ν (upI (upI ν1 0 13 (nI x)) 0 14 (pl (t + 1))) := FNm_tr f1 (FNm_tr (FNm_0 (by omega)) (FNm_0 (by omega)))
      refine th_f (pl := pl) (ν0 := ν) (x := x) (t' := t + 1) hx hsd hh (fun ν' hF => ?_) (by rw [rd_Ik (by omega), rd_Ik (by omega)]; exact g19) ⟨by rw [rd_Ik (by omega), rd_Is], rd_Is, FHm_FN f2⟩
      rw [hp, show p95 tk (t + 1) = .error (x, t + 1) by unfold p95; rw [hq]; rfl]
      exact hF
    · have hp2 : pHs tk t = exB (pKs tk [2, 2, 2, 2, 2] (t + 1 + 1)) (fun t => pTk tk 4 t) := by rw [hp]; unfold p95; rw [hq, exB_ok]
      have f2 : FNm ν (upI ν1 0 11 (nI (t + 1 + 1))) := FNm_tr f1 (FNm_0 (Or.inl rfl))
      show Wo (fX12_tellHouse_l34 _ (nI (t + 1)) FU (nI 0) _) _
      refine nl_m (tv := tv) (nm := nm) hT hP hK (by omega) hsd h19 h9 m1 k1 hn (r := h) (i := 0) (N := FU) (w := w) (by omega) (by unfold FU; omega) f2 (by rw [rd_Ik (by omega)]; exact g13) (NTm_fr gw (by rw [rd_Ik (by omega)]) (by rw [rd_Ik (by omega)])) (fun y t1 hq => Or.inl (by have := hb y t1 hq; omega)) (fun ν2 f3 g13' g11' gn => ?_)
      rw [rd_Is] at g11'
      show Wo (HMx (6 * sd + h) (K82 (nI (t + 1))) 5 0 ν2) _
      refine hm_m (tv := tv) (t := t + 2) (w := ntd w (dupF nm (tn (t + 1)) h 0) 3 (t + 1)) (ν0 := ν) hT hP hK hh hsd (fun y t1 hq => ?_) (r := 5) (i := 0) (by omega) m2 ⟨g13', g11', gn, fun j hj => by omega, fun j a b k c => by rw [f3.1 j (by omega)], f3.1 9 (by omega), fun j a b => f3.1 j (by omega), f3.2.2, FHm_FN f3⟩ (fun x t' ν' hr hF => ?_) (fun ν' hr m5 hS => ?_)
      · rcases ntd_at hq with hq | ⟨_, b⟩
        · have := hb y t1 hq; omega
        · omega
      · rw [hp2, show pKs tk [2, 2, 2, 2, 2] (t + 1 + 1) = .error (x, t') from hr]
        exact hF
      · have hp3 : pHs tk t = pTk tk 4 (t + 2 + 5) := by rw [hp2, show pKs tk [2, 2, 2, 2, 2] (t + 1 + 1) = .ok (t + 2 + 5) from hr]; rfl
        obtain ⟨s1, s2, s3, s4, s5, s6, s7, s8, s9⟩ := hS
        unfold K82
        rw [show (4 : Int32) = nI 4 from rfl]
        refine mstM hT (TKm_FH hK s9) s1 s2 m5 (by omega) (by omega) (by omega) (fun x hx hq => ?_) (fun hq _ _ m6 => ?_)
        · rw [rd_Ik (by omega), rd_Is, if_neg (nI_nle (by omega) (by omega)), Wo_some, hp3, hq]
          exact ⟨by rw [rd_Ik (by omega), rd_Is], rd_Is, FHm_tr s9 (FHm_FN (FNm_tr (FNm_0 (by omega)) (FNm_0 (by omega))))⟩
        · have f4 : FHm sd ν (upI ν' 0 11 (nI (t + 2 + 5 + 1))) := FHm_tr s9 (FHm_FN (FNm_0 (by omega)))
          generalize hν4 : upI ν' 0 11 (nI (t + 2 + 5 + 1)) = ν4
          rw [hν4] at f4
          have z0 : ∀ k, k ≠ 11 → ν4.1 0 k = ν'.1 0 k := fun k hk => by rw [← hν4, rd_Ik hk]
          have zj : ∀ j, j ≠ 0 → ν4.1 j = ν'.1 j := fun j hj => by rw [← hν4, rd_Ii hj]
          have z2 : ν4.2 = ν'.2 := by rw [← hν4]; rfl
          have z19 : ν4.1 0 19 = nI sd := by rw [f4.2.1 19 (by omega) (by omega)]; exact h19
          have z9 : ν4.1 9 sd = nI h := by rw [zj 9 (by omega), s6]; exact h9
          rw [show ν4.1 0 13 = 0 by rw [z0 13 (by omega)]; exact s1, if_pos (by decide), z19, ix_nI (by omega) (by omega), gd_true, ix_nI (by omega) (by omega), gd_true, nI_clamp (by omega), z9, ix_nI (by omega) (by omega), gd_true, nI_clamp (by omega), nI_clamp (by omega), bd_eq, rd_L1, z19, ix_nI (by omega) (by omega), gd_true, gd_true, nI_clamp (by omega), z9, nI_1, bd_eq, Wo_some, hp3, hq]
          refine ⟨by rw [rd_Ii (by omega), rd_L1, z0 13 (by omega)]; exact s1, by rw [rd_Ii (by omega), rd_L1, ← hν4, rd_Is], ?_, rd_Is, fun j hj => ?_, fun j a b k c => ?_, fun j a b => ?_, ?_, fun i hi => ?_, FHm_tr f4 (FHm_tr FHm_L (FHm_b (Or.inl rfl)))⟩
          · exact NTm_fr s3 (by rw [rd_Ii (by omega), rd_L1, z0 15 (by omega)]) (by rw [rd_Ii (by omega), rd_L1, z0 16 (by omega)])
          · rw [rd_Ii (by omega), rd_L1, zj _ (by omega)]; exact s4 j hj
          · rw [rd_Ii (by omega), rd_L1, zj j (by omega)]; exact s5 j a b k c
          · rw [rd_Ii (by omega), rd_L1, zj j (by omega)]; exact s7 j a b
          · rw [rd_I2, rd_Ls, z2, s8]; exact (hK _ m1).2.2.2 k1
          · rw [rd_I2, rd_Lk hi, z2, s8]
  · rw [goesOn_2 hT hK h13 h11 ht h4, b1_some]
    have hp : pHs tk t = .error (2, t) := by unfold pHs; rw [pTk_2 hk h4]; rfl
    have f2 : FNm ν (upI (upI ν 0 13 2) 0 14 (pl t)) := FNm_tr (FNm_0 (by omega)) (FNm_0 (by omega))
    generalize hν2 : upI (upI ν 0 13 2) 0 14 (pl t) = ν2
    rw [hν2] at f2
    have g19 : ν2.1 0 19 = nI sd := by rw [f2.2.1 19 (by omega) (by omega)]; exact h19
    have g9 : ν2.1 9 sd = nI h := by rw [f2.1 9 (by omega)]; exact h9
    have g13 : ν2.1 0 13 = nI 2 := by rw [← hν2, rd_Ik (by omega), rd_Is]; rfl
    have g14 : ν2.1 0 14 = pl t := by rw [← hν2, rd_Is]
    rw [g19, ix_nI (by omega) (by omega), gd_true, nI_clamp (by omega), g9, ei, bd_eq, bd_eq, must_f g13 (Or.inr rfl), b1_some, show FU = 99999 + 1 from rfl]
    refine th_f (pl := pl) (ν0 := ν) (x := 2) (t' := t) (Or.inr rfl) hsd hh (fun ν' hF => ?_) g19 ⟨g13, g14, FHm_FN f2⟩
    rw [hp]
    exact hF
/-- a told number: kind, number, stop -/
def RNm (tv : Nat → Int32) (pl : Nat → Int32) (sd i t : Nat) (w : Option (Nat × Nat)) (ν : Mem) (r : Except (Nat × Nat) Nat) (p : Int32 × Mem) : Prop := match r with
  | .error (x, t') => p.2.1 0 13 = nI x ∧ p.2.1 0 14 = pl t' ∧ FNm ν p.2
  | .ok _ => p.1 = tv (t + 1) ∧ p.2.1 0 13 = 0 ∧ p.2.1 0 11 = nI (t + 3) ∧ NTm pl (ntd w (oor i (tv (t + 1))) 5 (t + 1)) p.2 ∧ FNm ν p.2
theorem toldInt_m {tk : Nat → Nat} {tv : Nat → Int32} {tn : Nat → Int64} {pl : Nat → Int32} {e : Nat} {t k i : Nat} {sd : Nat} {w : Option (Nat × Nat)} {ν : Mem} (hT : TE tk e) (hP : PLm pl e) (hK : TKm tk tv tn pl e ν) (h13 : ν.1 0 13 = 0) (h11 : ν.1 0 11 = nI t) (ht : t ≤ e) (hk : tk t = k) (hk0 : k ≠ 0) (hk3 : k ≠ 3) (hw : NTm pl w ν) (hb : ∀ y t1, w = some (y, t1) → t1 < t) : Wo (fX12_toldInt (xLEAST i) (xMOST i) ν) (RNm tv pl sd i t w ν (exB (pTk tk k t) (fun t => pNm tk t))) := by
  have h400 := hT.1
  unfold fX12_toldInt
  by_cases h4 : t < 400
  · have p1 := pTk_t hk h4
    have m1 := TE_nx hT ht h4 (by omega) (by omega)
    rw [goesOn_ok h11 h4, b1_some, p1, exB_ok]
    have f1 : FNm ν (upI ν 0 11 (nI (t + 1))) := FNm_0 (Or.inl rfl)
    refine bndM (tv := tv) (w := w) hT hP (TKm_FN hK f1) (by rw [rd_Ik (by omega)]; exact h13) rd_Is m1 (NTm_fr hw (by rw [rd_Ik (by omega)]) (by rw [rd_Ik (by omega)])) (fun y t1 hq => by have := hb y t1 hq; omega) (fun x y ν1 hx hq g13 g14 f2 => ?_) (fun ν1 hq m2 g13 g11 gn f2 => ?_)
    · rw [must_f g13 hx, b1_some, Wo_some, show pNm tk (t + 1) = .error (x, t + 1) by unfold pNm; rw [hq]; rfl]
      exact ⟨g13, g14, FNm_tr f1 f2⟩
    · have hp : pNm tk (t + 1) = pTk tk 4 (t + 1 + 1) := by unfold pNm; rw [hq, exB_ok]
      rw [hp, show (4 : Int32) = nI 4 from rfl]
      refine mstM hT (TKm_FN hK (FNm_tr f1 f2)) g13 g11 m2 (by omega) (by omega) (by omega) (fun x hx hr => ?_) (fun hr _ _ m3 => ?_)
      · rw [Wo_some, hr]
        exact ⟨by dsimp only; rw [rd_Ik (by omega), rd_Is], rd_Is, FNm_tr (FNm_tr f1 f2) (FNm_tr (FNm_0 (by omega)) (FNm_0 (by omega)))⟩
      · rw [Wo_some, hr]
        exact ⟨rfl, by dsimp only; rw [rd_Ik (by omega)]; exact g13, rd_Is, NTm_fr gn (by dsimp only; rw [rd_Ik (by omega)]) (by dsimp only; rw [rd_Ik (by omega)]), FNm_tr (FNm_tr f1 f2) (FNm_0 (by omega))⟩
  · have p1 := pTk_2 hk h4
    rw [goesOn_2 hT hK h13 h11 ht h4, b1_some, p1]
    have f2 : FNm ν (upI (upI ν 0 13 2) 0 14 (pl t)) := FNm_tr (FNm_0 (by omega)) (FNm_0 (by omega))
    have g13 : (upI (upI ν 0 13 2) 0 14 (pl t)).1 0 13 = nI 2 := by rw [rd_Ik (by omega), rd_Is]; rfl
    rw [bounded_f g13 (Or.inr rfl), b2_some, must_f g13 (Or.inr rfl), b1_some, Wo_some]
    exact ⟨g13, rd_Is, f2⟩
