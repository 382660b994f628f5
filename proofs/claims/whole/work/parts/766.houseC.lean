theorem rd_Ls {μ : Mem} {j k : Nat} {v : Int64} : (upL μ j k v).2 j k = v := by rw [show (upL μ j k v).2 j = vp_updL (μ.2 j) k v from upM_eq]; simp [vp_updL]
theorem rd_Lk {μ : Mem} {j k m : Nat} {v : Int64} (h : m ≠ k) : (upL μ j k v).2 j m = μ.2 j m := by rw [show (upL μ j k v).2 j = vp_updL (μ.2 j) k v from upM_eq]; simp [vp_updL, h]
theorem rd_Li {μ : Mem} {j k i : Nat} {v : Int64} (h : i ≠ j) : (upL μ j k v).2 i = μ.2 i := (upL_ne h).2
theorem rd_L1 {μ : Mem} {j k : Nat} {v : Int64} : (upL μ j k v).1 = μ.1 := rfl
/-- tokens of such kinds, one after another -/
def pKs (tk : Nat → Nat) : List Nat → Nat → Except (Nat × Nat) Nat
  | [], t => .ok t
  | k :: ks, t => exB (pTk tk k t) (fun t => pKs tk ks t)
/-- a told house -/
def pHs (tk : Nat → Nat) (t : Nat) : Except (Nat × Nat) Nat := exB (pTk tk 20 t) (fun t => exB (pTk tk 1 t) (fun t => exB (pKs tk [2, 2, 2, 2, 2] t) (fun t => pTk tk 4 t)))
def oor (i : Nat) (v : Int32) : Bool := decide (v < xLEAST i) || decide (xMOST i < v)
/-- what was noted first stands -/
def ntd (w : Option (Nat × Nat)) (c : Bool) (x t : Nat) : Option (Nat × Nat) := match w with
  | some y => some y
  | none => if c then some (x, t) else none
theorem ntd_f {w : Option (Nat × Nat)} {x t : Nat} : ntd w false x t = w := by cases w <;> rfl
def NTc (pl : Nat → Int32) (w : Option (Nat × Nat)) (μ : Mem) : Prop := match w with
  | none => μ.1 3 3 = 0
  | some (y, t) => (y = 3 ∨ y = 5) ∧ μ.1 3 3 = nI y ∧ μ.1 3 4 = pl t
theorem NTc_fr {pl : Nat → Int32} {w : Option (Nat × Nat)} {μ μ' : Mem} (h : NTc pl w μ) (h3 : μ'.1 3 3 = μ.1 3 3) (h4 : μ'.1 3 4 = μ.1 3 4) : NTc pl w μ' := by
  match w, h with
  | none, h => exact h3.trans h
  | some (y, t), h => exact ⟨h.1, h3.trans h.2.1, h4.trans h.2.2⟩
def F2c (μ μ' : Mem) : Prop := (∀ j, j ≠ 3 → μ'.1 j = μ.1 j) ∧ (∀ k, k ≠ 3 → k ≠ 4 → μ'.1 3 k = μ.1 3 k) ∧ μ'.2 = μ.2
theorem F2c_rfl {μ : Mem} : F2c μ μ := ⟨fun _ _ => rfl, fun _ _ _ => rfl, rfl⟩
theorem TKc_F2 {tk : Nat → Nat} {tv : Nat → Int32} {tn : Nat → Int64} {pl : Nat → Int32} {e : Nat} {μ μ' : Mem} (h : TKc tk tv tn pl e μ) (hf : F2c μ μ') : TKc tk tv tn pl e μ' := TKc_fr h (hf.1 6 (by omega)) (hf.1 8 (by omega)) (by rw [hf.2.2])
theorem note_c {tk : Nat → Nat} {tv : Nat → Int32} {tn : Nat → Int64} {pl : Nat → Int32} {e : Nat} {w : Option (Nat × Nat)} {x t : Nat} {μ : Mem} {α : Type} {F : Mem → Option α} {Q : α → Prop} (hT : TE tk e) (hK : TKc tk tv tn pl e μ) (h2 : μ.1 3 2 = nI t) (ht : t ≤ e) (hx : x = 3 ∨ x = 5) (hw : NTc pl w μ) (hc : ∀ μ', NTc pl (ntd w true x t) μ' → F2c μ μ' → Wo (F μ') Q) : Wo (b1 (fX4_note (nI x) μ) F) Q := by
  have h400 := hT.1
  unfold fX4_note
  match w, hw with
  | none, hw =>
    have h3 : μ.1 3 3 = 0 := hw
    rw [h3, if_pos rfl, bd_eq, rd_Ik (by omega), h2, ix_nI (by omega) (by omega), gd_true, nI_clamp (by omega), rd_Ii (by omega), (hK t ht).2.1, bd_eq, b1_some]
    exact hc _ ⟨hx, by rw [rd_Ik (by omega), rd_Is], rd_Is⟩ ⟨fun j hj => by rw [rd_Ii hj, rd_Ii hj], fun k a b => by rw [rd_Ik b, rd_Ik a], rfl⟩
  | some (y, t1), hw =>
    rw [hw.2.1, if_neg (nI_ne0 (by have := hw.1; omega) (by have := hw.1; omega)), b1_some]
    exact hc μ hw F2c_rfl
theorem numC {tk : Nat → Nat} {tv : Nat → Int32} {tn : Nat → Int64} {pl : Nat → Int32} {e : Nat} {w : Option (Nat × Nat)} {i t : Nat} {μ : Mem} {F : Int32 → Mem → Option (Int32 × Mem)} {Q : Int32 × Mem → Prop} (hT : TE tk e) (hK : TKc tk tv tn pl e μ) (h2 : μ.1 3 2 = nI t) (ht : t ≤ e) (hi : i < 9) (hw : NTc pl w μ)
    (hn : tk t ≠ 2 → ∀ y, Wo (F y μ) Q) (hy : tk t = 2 → ∀ μ', NTc pl (ntd w (oor i (tv t)) 5 t) μ' → F2c μ μ' → Wo (F (tv t) μ') Q) : Wo (b2 (fX4_numberHere (nI i) μ) F) Q := by
  have h400 := hT.1
  have e2 : nI (cK (tk t)) = 22 ↔ tk t = 2 := cK_eq (b := 2) (hT.2.2 t ht) (by omega)
  unfold fX4_numberHere fX4_numberHere_b48
  rw [h2, ix_nI (by omega) (by omega), gd_true, nI_clamp (by omega), bd_eq, if_neg (nI_pos (by omega)), if_neg (by simp (disch := omega) only [L_add, L_add2, L_mul, L_mul2, L_sub, nI_add, pk_mul, pk_sub, L_le, L_le2, L_lt, L_lt2, L_eq, L_eq2, nI_leI, nI_ltI, nI_eq, nI_clamp, ix_nI, ix_lit, L_cl]; omega), ix_nI (by omega) (by omega), gd_true, gd_true, nI_clamp (by omega)]
  have b49 : ∀ (y k0 : Int32), fX4_numberHere_b49 y k0 μ = if tk t = 2 then (if k0 = 0 then b1 (fX4_note (nI 5) μ) (fun μ6 => some (y, μ6)) else some (y, μ)) else some (y, μ) := by
    intro y k0
    unfold fX4_numberHere_b49
    rw [h2, ix_nI (by omega) (by omega), gd_true, nI_clamp (by omega), (hK t ht).1]
    by_cases h : tk t = 2
    · rw [if_pos (e2.mpr h), if_pos h]; rfl
    · rw [if_neg (fun hx => h (e2.mp hx)), if_neg h]
  rw [b49, b49]
  by_cases h : tk t = 2
  · rw [(hK t ht).2.2.1 h, if_pos h, if_pos rfl, if_pos h, if_neg n10]
    have hy := hy h
    have hbad : oor i (tv t) = true → Wo (b2 (b1 (fX4_note (nI 5) μ) (fun μ6 => some (tv t, μ6))) F) Q := by
      intro ho
      rw [Wo_b2]
      refine note_c hT hK h2 ht (Or.inr rfl) hw (fun μ' a b => ?_)
      rw [Wo_some]
      rw [ho] at hy
      exact hy μ' a b
    by_cases c1 : tv t < xLEAST i
    · rw [if_pos c1]
      exact hbad (by unfold oor; rw [decide_eq_true c1]; rfl)
    · rw [if_neg c1]
      by_cases c2 : xMOST i < tv t
      · rw [if_pos c2]
        exact hbad (by unfold oor; rw [decide_eq_true c2, Bool.or_true])
      · rw [if_neg c2, b2_some]
        refine hy μ ?_ F2c_rfl
        rw [show oor i (tv t) = false by unfold oor; rw [decide_eq_false c1, decide_eq_false c2]; rfl, ntd_f]
        exact hw
  · rw [if_neg h, if_neg h]
    have hn := hn h (μ.2 7 t).toInt32
    have : ∀ {c1 c2 : Prop} [Decidable c1] [Decidable c2] {x : Option (Int32 × Mem)}, (if c1 then x else if c2 then x else x) = x := by
      intro c1 c2 _ _ x
      split
      · rfl
      · split <;> rfl
    rw [this, b2_some]
    exact hn
def FHc (μ0 μ : Mem) : Prop := (∀ j, j ≠ 3 → j ≠ 9 → j ≠ 10 → μ.1 j = μ0.1 j) ∧ (∀ k, ¬ (2 ≤ k ∧ k ≤ 4) → μ.1 3 k = μ0.1 3 k) ∧ (∀ k, ¬ (2 ≤ k ∧ k ≤ 6) → μ.1 9 k = μ0.1 9 k) ∧ ∀ j, j ≠ 16 → μ.2 j = μ0.2 j
theorem FHc_rfl {μ : Mem} : FHc μ μ := ⟨fun _ _ _ _ => rfl, fun _ _ => rfl, fun _ _ => rfl, fun _ _ => rfl⟩
theorem FHc_tr {a b c : Mem} (h : FHc a b) (h2 : FHc b c) : FHc a c := ⟨fun j x y z => (h2.1 j x y z).trans (h.1 j x y z), fun k x => (h2.2.1 k x).trans (h.2.1 k x), fun k x => (h2.2.2.1 k x).trans (h.2.2.1 k x), fun j x => (h2.2.2.2 j x).trans (h.2.2.2 j x)⟩
theorem FHc_F2 {μ μ' : Mem} (h : F2c μ μ') : FHc μ μ' := ⟨fun j a _ _ => h.1 j a, fun k a => h.2.1 k (by omega) (by omega), fun k _ => by rw [h.1 9 (by omega)], fun j _ => by rw [h.2.2]⟩
theorem FHc_2 {μ : Mem} {k : Nat} {v : Int32} (hk : 2 ≤ k ∧ k ≤ 4) : FHc μ (upI μ 3 k v) := ⟨fun j a _ _ => rd_Ii a, fun i hi => rd_Ik (by omega), fun i _ => by rw [rd_Ii (by omega)], fun _ _ => rfl⟩
theorem FHc_8 {μ : Mem} {k : Nat} {v : Int32} (hk : 2 ≤ k ∧ k ≤ 6) : FHc μ (upI μ 9 k v) := ⟨fun j _ a _ => rd_Ii a, fun i _ => by rw [rd_Ii (by omega)], fun i hi => rd_Ik (by omega), fun _ _ => rfl⟩
theorem FHc_10 {μ : Mem} {k : Nat} {v : Int32} : FHc μ (upI μ 10 k v) := ⟨fun j _ _ a => rd_Ii a, fun i _ => by rw [rd_Ii (by omega)], fun i _ => by rw [rd_Ii (by omega)], fun _ _ => rfl⟩
theorem FHc_L {μ : Mem} {k : Nat} {v : Int64} : FHc μ (upL μ 16 k v) := ⟨fun _ _ _ _ => rfl, fun _ _ => rfl, fun _ _ => rfl, fun _ h => rd_Li h⟩
theorem TKc_FH {tk : Nat → Nat} {tv : Nat → Int32} {tn : Nat → Int64} {pl : Nat → Int32} {e : Nat} {μ μ' : Mem} (h : TKc tk tv tn pl e μ) (hf : FHc μ μ') : TKc tk tv tn pl e μ' := TKc_fr h (hf.1 6 (by omega) (by omega) (by omega)) (hf.1 8 (by omega) (by omega) (by omega)) (hf.2.2.2 7 (by omega))
def wNo (tv : Nat → Int32) (w : Option (Nat × Nat)) (t : Nat) : Nat → Option (Nat × Nat)
  | 0 => w
  | i + 1 => ntd (wNo tv w t i) (oor i (tv (t + i))) 5 (t + i)
def SHc (tv : Nat → Int32) (pl : Nat → Int32) (μ0 : Mem) (t h : Nat) (w : Option (Nat × Nat)) (i : Nat) (μ : Mem) : Prop := μ.1 3 2 = nI (t + i) ∧ NTc pl (wNo tv w t i) μ ∧ μ.1 9 = μ0.1 9 ∧ μ.2 = μ0.2 ∧ (∀ j, j < i → μ.1 10 (h * 5 + j) = tv (t + j)) ∧ (∀ k, k < h * 5 → μ.1 10 k = μ0.1 10 k) ∧ FHc μ0 μ
theorem h108_s (K : Mem → Option (Int32 × Mem)) (x y : Int32) (n : Nat) (μ : Mem) : fX4_tellHouse_l102 K x (n + 1) y μ = fX4_tellHouse_s102 (fX4_tellHouse_l102 K x n) K x y μ := rfl
theorem hl_c {tk : Nat → Nat} {tv : Nat → Int32} {tn : Nat → Int64} {pl : Nat → Int32} {e : Nat} {t h : Nat} {w : Option (Nat × Nat)} {μ0 : Mem} {K : Mem → Option (Int32 × Mem)} {Q : Int32 × Mem → Prop} (hT : TE tk e) (hK : TKc tk tv tn pl e μ0) (hh : h < 6) {r : Nat} : ∀ {i N : Nat} {μ : Mem}, r + i = 5 → 5 < N + i → t + i ≤ e → SHc tv pl μ0 t h w i μ → (∀ x t' μ', (x = 1 ∨ x = 2) → pKs tk (List.replicate r 2) (t + i) = .error (x, t') → μ'.1 3 3 = nI x → μ'.1 3 4 = pl t' → FHc μ0 μ' → Q (0, μ')) → (∀ μ', pKs tk (List.replicate r 2) (t + i) = .ok (t + 5) → t + 5 ≤ e → SHc tv pl μ0 t h w 5 μ' → Wo (K μ') Q) → Wo (fX4_tellHouse_l102 K (nI h) N (nI i) μ) Q := by
  have h400 := hT.1
  induction r with
  | zero =>
    intro i N μ hi hN ht hS herr hok
    obtain ⟨N, rfl⟩ : ∃ n', N = n' + 1 := ⟨N - 1, by omega⟩
    have hi5 : i = 5 := by omega
    subst hi5
    rw [h108_s]
    unfold fX4_tellHouse_s102
    rw [if_pos (by decide)]
    exact hok μ rfl ht hS
  | succ r ih =>
    intro i N μ hi hN ht hS herr hok
    obtain ⟨N, rfl⟩ : ∃ n', N = n' + 1 := ⟨N - 1, by omega⟩
    rw [h108_s]
    unfold fX4_tellHouse_s102
    rw [if_neg (by simp (disch := omega) only [L_add, L_add2, L_mul, L_mul2, L_sub, nI_add, pk_mul, pk_sub, L_le, L_le2, L_lt, L_lt2, L_eq, L_eq2, nI_leI, nI_ltI, nI_eq, nI_clamp, ix_nI, ix_lit, L_cl]; omega)]
    obtain ⟨s1, s2, s3, s4, s5, s6, s7⟩ := hS
    have hK1 := TKc_FH hK s7
    have hp : pKs tk (List.replicate (r + 1) 2) (t + i) = exB (pTk tk 2 (t + i)) (fun t => pKs tk (List.replicate r 2) t) := rfl
    have hset : ∀ (y : Int32) (μ1 : Mem), fX3_setNumber 9 (nI h) (nI i) y μ1 = some (upI μ1 10 (h * 5 + i) y) := by
      intro y μ1
      unfold fX3_setNumber
      rw [show nI h * 5 + nI i = nI (h * 5 + i) by simp (disch := omega) only [L_add, L_add2, L_mul, L_mul2, L_sub, nI_add, pk_mul, pk_sub, L_le, L_le2, L_lt, L_lt2, L_eq, L_eq2, nI_leI, nI_ltI, nI_eq, nI_clamp, ix_nI, ix_lit, L_cl], bd_eq, if_neg (nI_pos (by omega)), if_neg (by simp (disch := omega) only [L_add, L_add2, L_mul, L_mul2, L_sub, nI_add, pk_mul, pk_sub, L_le, L_le2, L_lt, L_lt2, L_eq, L_eq2, nI_leI, nI_ltI, nI_eq, nI_clamp, ix_nI, ix_lit, L_cl]; omega), ix_nI (by omega) (by omega), gd_true, nI_clamp (by omega), bd_eq]
    refine numC (tv := tv) hT hK1 s1 ht (by omega) s2 (fun hne y => ?_) (fun heq μ1 n1 f1 => ?_)
    · rw [hset, b1_some, show (22 : Int32) = nI (cK 2) from rfl]
      refine tkC hT (TKc_FH hK1 FHc_10) (by rw [rd_Ii (by omega)]; exact s1) ht (by omega) (by omega) (by omega) (fun x hx hq => ?_) (fun _ hq => absurd hq hne)
      rw [if_pos rfl, Wo_some]
      exact herr x (t + i) _ hx (by rw [hp, hq]; rfl) (by rw [rd_Ik (by omega), rd_Is]) rd_Is (FHc_tr s7 (FHc_tr FHc_10 (FHc_tr (FHc_2 (by omega)) (FHc_2 (by omega)))))
    · rw [hset, b1_some, show (22 : Int32) = nI (cK 2) from rfl]
      refine tkC hT (TKc_FH (TKc_F2 hK1 f1) FHc_10) (by rw [rd_Ii (by omega), f1.2.1 2 (by omega) (by omega)]; exact s1) ht (by omega) (by omega) (by omega) (fun x hx hq => ?_) (fun hq _ _ m1 => ?_)
      · rw [if_pos rfl, Wo_some]
        exact herr x (t + i) _ hx (by rw [hp, hq]; rfl) (by rw [rd_Ik (by omega), rd_Is]) rd_Is (FHc_tr s7 (FHc_tr (FHc_F2 f1) (FHc_tr FHc_10 (FHc_tr (FHc_2 (by omega)) (FHc_2 (by omega))))))
      · rw [if_neg n10, nI_1]
        rw [hq, exB_ok] at hp
        refine ih (by omega) (by omega) (by omega) ⟨?_, ?_, ?_, ?_, fun j hj => ?_, fun k hk => ?_, FHc_tr s7 (FHc_tr (FHc_F2 f1) (FHc_tr FHc_10 (FHc_2 (by omega))))⟩ (fun x t' μ' hx hq' => herr x t' μ' hx (by rw [hp]; exact hq')) (fun μ' hq' => hok μ' (by rw [hp]; exact hq'))
        · rw [rd_Is]; rfl
        · exact NTc_fr n1 (by rw [rd_Ik (by omega), rd_Ii (by omega)]) (by rw [rd_Ik (by omega), rd_Ii (by omega)])
        · rw [rd_Ii (by omega), rd_Ii (by omega), f1.1 9 (by omega)]; exact s3
        · exact f1.2.2.trans s4
        · rw [rd_Ii (by omega)]
          by_cases hji : j = i
          · subst hji; rw [rd_Is]
          · rw [rd_Ik (by omega), f1.1 10 (by omega)]; exact s5 j (by omega)
        · rw [rd_Ii (by omega), rd_Ik (by omega), f1.1 10 (by omega)]; exact s6 k hk
