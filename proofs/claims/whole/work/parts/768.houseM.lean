def PLm (pl : Nat → Int32) (e : Nat) : Prop := ∀ i j, i < j → j ≤ e → pl i < pl j
def NTm (pl : Nat → Int32) (w : Option (Nat × Nat)) (ν : Mem) : Prop := match w with
  | none => ν.1 0 15 = 0
  | some (y, t) => (y = 3 ∨ y = 5) ∧ ν.1 0 15 = nI y ∧ ν.1 0 16 = pl t
theorem NTm_fr {pl : Nat → Int32} {w : Option (Nat × Nat)} {ν ν' : Mem} (h : NTm pl w ν) (h3 : ν'.1 0 15 = ν.1 0 15) (h4 : ν'.1 0 16 = ν.1 0 16) : NTm pl w ν' := by
  match w, h with
  | none, h => exact h3.trans h
  | some (y, t), h => exact ⟨h.1, h3.trans h.2.1, h4.trans h.2.2⟩
def FNm (ν ν' : Mem) : Prop := (∀ j, j ≠ 0 → ν'.1 j = ν.1 j) ∧ (∀ k, k ≠ 11 → ¬ (13 ≤ k ∧ k ≤ 16) → ν'.1 0 k = ν.1 0 k) ∧ ν'.2 = ν.2
theorem FNm_rfl {ν : Mem} : FNm ν ν := ⟨fun _ _ => rfl, fun _ _ _ => rfl, rfl⟩
theorem FNm_tr {a b c : Mem} (h : FNm a b) (h2 : FNm b c) : FNm a c := ⟨fun j x => (h2.1 j x).trans (h.1 j x), fun k x y => (h2.2.1 k x y).trans (h.2.1 k x y), h2.2.2.trans h.2.2⟩
theorem FNm_0 {ν : Mem} {k : Nat} {v : Int32} (hk : k = 11 ∨ (13 ≤ k ∧ k ≤ 16)) : FNm ν (upI ν 0 k v) := ⟨fun j a => rd_Ii a, fun i a b => rd_Ik (by omega), rfl⟩
theorem TKm_FN {tk : Nat → Nat} {tv : Nat → Int32} {tn : Nat → Int64} {pl : Nat → Int32} {e : Nat} {ν ν' : Mem} (h : TKm tk tv tn pl e ν) (hf : FNm ν ν') : TKm tk tv tn pl e ν' := TKm_fr h (hf.1 3 (by omega)) (hf.1 4 (by omega)) (hf.1 5 (by omega)) (by rw [hf.2.2])
def FHm (sd : Nat) (ν0 ν : Mem) : Prop := (∀ j, j ≠ 0 → ¬ (9 ≤ j ∧ j ≤ 18) → ν.1 j = ν0.1 j) ∧ (∀ k, k ≠ 11 → ¬ (13 ≤ k ∧ k ≤ 16) → ν.1 0 k = ν0.1 0 k) ∧ (∀ j, j = 9 ∨ (15 ≤ j ∧ j ≤ 18) → ∀ i, i ≠ sd → ν.1 j i = ν0.1 j i) ∧ (∀ j, 10 ≤ j → j ≤ 14 → ∀ i, ¬ (6 * sd ≤ i ∧ i < 6 * sd + 6) → ν.1 j i = ν0.1 j i) ∧ ∀ j, j ≠ 8 → ν.2 j = ν0.2 j
theorem FHm_tr {sd : Nat} {a b c : Mem} (h : FHm sd a b) (h2 : FHm sd b c) : FHm sd a c := ⟨fun j x y => (h2.1 j x y).trans (h.1 j x y), fun k x y => (h2.2.1 k x y).trans (h.2.1 k x y), fun j x i y => (h2.2.2.1 j x i y).trans (h.2.2.1 j x i y), fun j x y i z => (h2.2.2.2.1 j x y i z).trans (h.2.2.2.1 j x y i z), fun j x => (h2.2.2.2.2 j x).trans (h.2.2.2.2 j x)⟩
theorem FHm_FN {sd : Nat} {ν ν' : Mem} (h : FNm ν ν') : FHm sd ν ν' := ⟨fun j a _ => h.1 j a, h.2.1, fun j a i _ => by rw [h.1 j (by omega)], fun j a b i _ => by rw [h.1 j (by omega)], fun j _ => by rw [h.2.2]⟩
theorem FHm_a {sd : Nat} {ν : Mem} {j i : Nat} {v : Int32} (hj : 10 ≤ j ∧ j ≤ 14) (hi : 6 * sd ≤ i ∧ i < 6 * sd + 6) : FHm sd ν (upI ν j i v) := ⟨fun m a b => rd_Ii (by omega), fun k _ _ => by rw [rd_Ii (by omega)], fun m a k b => by rw [rd_Ii (by omega)], fun m a b k c => by
  by_cases h : m = j
  · subst h; exact rd_Ik (by omega)
  · rw [rd_Ii h], fun _ _ => rfl⟩
theorem FHm_b {sd : Nat} {ν : Mem} {j : Nat} {v : Int32} (hj : j = 9 ∨ (15 ≤ j ∧ j ≤ 18)) : FHm sd ν (upI ν j sd v) := ⟨fun m a b => rd_Ii (by omega), fun k _ _ => by rw [rd_Ii (by omega)], fun m a k b => by
  by_cases h : m = j
  · subst h; exact rd_Ik (by omega)
  · rw [rd_Ii h], fun m a b k c => by rw [rd_Ii (by omega)], fun _ _ => rfl⟩
theorem FHm_L {sd : Nat} {ν : Mem} {k : Nat} {v : Int64} : FHm sd ν (upL ν 8 k v) := ⟨fun _ _ _ => rfl, fun _ _ _ => rfl, fun _ _ _ _ => rfl, fun _ _ _ _ _ => rfl, fun _ h => rd_Li h⟩
theorem TKm_FH {tk : Nat → Nat} {tv : Nat → Int32} {tn : Nat → Int64} {pl : Nat → Int32} {e sd : Nat} {ν ν' : Mem} (h : TKm tk tv tn pl e ν) (hf : FHm sd ν ν') : TKm tk tv tn pl e ν' := TKm_fr h (hf.1 3 (by omega) (by omega)) (hf.1 4 (by omega) (by omega)) (hf.1 5 (by omega) (by omega)) (hf.2.2.2.2 6 (by omega))
theorem wrongM {tk : Nat → Nat} {tv : Nat → Int32} {tn : Nat → Int64} {pl : Nat → Int32} {e : Nat} {w : Option (Nat × Nat)} {x t : Nat} {ν : Mem} {α : Type} {F : Mem → Option α} {Q : α → Prop} (hT : TE tk e) (hP : PLm pl e) (hK : TKm tk tv tn pl e ν) (h13 : ν.1 0 13 = 0) (ht : t ≤ e) (hx : x = 3 ∨ x = 5) (hw : NTm pl w ν) (hb : ∀ y t1, w = some (y, t1) → t1 < t ∨ (t1 = t ∧ y = x)) (hc : ∀ ν', NTm pl (ntd w true x t) ν' → FNm ν ν' → ν'.1 0 13 = 0 → ν'.1 0 11 = ν.1 0 11 → Wo (F ν') Q) : Wo (b1 (fX12_wrong (nI x) (nI t) ν) F) Q := by
  have h400 := hT.1
  unfold fX12_wrong
  rw [ix_nI (by omega) (by omega), gd_true, nI_clamp (by omega), bd_eq, (hK t ht).2.1, h13, if_neg (by decide)]
  match w, hw with
  | none, hw =>
    have h15 : ν.1 0 15 = 0 := hw
    rw [h15, if_pos rfl, bd_eq, bd_eq, b1_some]
    exact hc _ ⟨hx, by rw [rd_Ik (by omega), rd_Is], rd_Is⟩ (FNm_tr (FNm_0 (by omega)) (FNm_0 (by omega))) (by rw [rd_Ik (by omega), rd_Ik (by omega)]; exact h13) (by rw [rd_Ik (by omega), rd_Ik (by omega)])
  | some (y, t1), hw =>
    obtain ⟨w1, w2, w3⟩ := hw
    rw [w2, if_neg (nI_ne0 (by omega) (by omega)), w3]
    rcases hb y t1 rfl with h | ⟨h, h'⟩
    · rw [if_pos (hP t1 t h ht), b1_some]
      exact hc ν ⟨w1, w2, w3⟩ FNm_rfl h13 rfl
    · subst h; subst h'
      rw [if_neg (fun hq => Int32.lt_irrefl hq), if_pos rfl, if_neg (fun hq => Int32.lt_irrefl hq), b1_some]
      exact hc ν ⟨w1, w2, w3⟩ FNm_rfl h13 rfl
theorem bounded_f {ν : Mem} {k : Nat} {x y : Int32} (h13 : ν.1 0 13 = nI k) (hk : k = 1 ∨ k = 2) : fX12_bounded x y ν = some (x, ν) := by
  unfold fX12_bounded
  rw [h13, if_pos (by rcases hk with rfl | rfl <;> decide), fail_f h13 hk, b1_some]
theorem bndM {tk : Nat → Nat} {tv : Nat → Int32} {tn : Nat → Int64} {pl : Nat → Int32} {e : Nat} {w : Option (Nat × Nat)} {i t : Nat} {ν : Mem} {α : Type} {F : Int32 → Mem → Option α} {Q : α → Prop} (hT : TE tk e) (hP : PLm pl e) (hK : TKm tk tv tn pl e ν) (h13 : ν.1 0 13 = 0) (h11 : ν.1 0 11 = nI t) (ht : t ≤ e) (hw : NTm pl w ν) (hb : ∀ y t1, w = some (y, t1) → t1 < t)
    (herr : ∀ x y ν', (x = 1 ∨ x = 2) → pTk tk 2 t = .error (x, t) → ν'.1 0 13 = nI x → ν'.1 0 14 = pl t → FNm ν ν' → Wo (F y ν') Q)
    (hok : ∀ ν', pTk tk 2 t = .ok (t + 1) → t + 1 ≤ e → ν'.1 0 13 = 0 → ν'.1 0 11 = nI (t + 1) → NTm pl (ntd w (oor i (tv t)) 5 t) ν' → FNm ν ν' → Wo (F (tv t) ν') Q) : Wo (b2 (fX12_bounded (xLEAST i) (xMOST i) ν) F) Q := by
  have h400 := hT.1
  unfold fX12_bounded
  rw [h13, if_neg (by decide), show (2 : Int32) = nI 2 from rfl, is_m hT hK h13 h11 ht (by omega), b1_some]
  by_cases h : tk t = 2
  · rw [if_pos h, if_neg n10, h11, ix_nI (by omega) (by omega), gd_true, nI_clamp (by omega), (hK t ht).2.2.1 h, bd_eq]
    have go : ∀ {w' : Option (Nat × Nat)} {ν1 : Mem}, w' = ntd w (oor i (tv t)) 5 t → NTm pl w' ν1 → FNm ν ν1 → ν1.1 0 13 = 0 → ν1.1 0 11 = nI t → Wo (b2 (b1 (fX12_goesOn ν1) (fun μ11 => some (tv t, μ11))) F) Q := by
      intro w' ν1 hwe hw' f1 g13 g11
      by_cases h4 : t < 400
      · rw [goesOn_ok g11 h4, b1_some, b2_some]
        refine hok _ (pTk_t h h4) (TE_nx hT ht h4 (by omega) (by omega)) (by rw [rd_Ik (by omega)]; exact g13) rd_Is ?_ (FNm_tr f1 (FNm_0 (by omega)))
        rw [← hwe]
        exact NTm_fr hw' (by rw [rd_Ik (by omega)]) (by rw [rd_Ik (by omega)])
      · rw [goesOn_2 hT (TKm_FN hK f1) g13 g11 ht h4, b1_some, b2_some]
        exact herr 2 _ _ (Or.inr rfl) (pTk_2 h h4) (by rw [rd_Ik (by omega), rd_Is]; rfl) rd_Is (FNm_tr f1 (FNm_tr (FNm_0 (by omega)) (FNm_0 (by omega))))
    have hbad : oor i (tv t) = true → Wo (b2 (fX12_bounded_b42 (tv t) ν) F) Q := by
      intro ho
      unfold fX12_bounded_b42
      rw [h11, show (5 : Int32) = nI 5 from rfl, Wo_b2]
      refine wrongM hT hP hK h13 ht (Or.inr rfl) hw (fun y t1 hq => Or.inl (hb y t1 hq)) (fun ν1 n1 f1 g13 g11 => ?_)
      rw [← Wo_b2]
      exact go (by rw [ho]) n1 f1 g13 (g11.trans h11)
    by_cases c1 : tv t < xLEAST i
    · rw [if_pos c1]
      exact hbad (by unfold oor; rw [decide_eq_true c1]; rfl)
    · rw [if_neg c1]
      by_cases c2 : tv t ≤ xMOST i
      · rw [if_pos c2]
        exact go (by rw [show oor i (tv t) = false by unfold oor; rw [decide_eq_false c1, decide_eq_false (Int32.not_lt.mpr c2)]; rfl, ntd_f]) hw FNm_rfl h13 h11
      · rw [if_neg c2]
        exact hbad (by unfold oor; rw [decide_eq_true (Int32.not_le.mp c2), Bool.or_true])
  · rw [if_neg h, if_pos rfl, fail_m hT hK h13 h11 ht, b1_some, b2_some]
    exact herr 1 _ _ (Or.inl rfl) (pTk_1 h) (by rw [rd_Ik (by omega), rd_Is]; rfl) rd_Is (FNm_tr (FNm_0 (by omega)) (FNm_0 (by omega)))
def HMx (x1 : Nat) (K : Mem → Option Mem) : Nat → Nat → Mem → Option Mem
  | 0, _, ν => K ν
  | r + 1, i, ν => b2 (fX12_bounded (xLEAST i) (xMOST i) ν) (fun r' ν1 => gd (ix (nI x1) 12) (bd (upI ν1 (10 + i) (nI x1).toNatClampNeg r') (fun ν2 => HMx x1 K r (i + 1) ν2)))
def K82 (x2 : Int32) : Mem → Option Mem := fun μ44 => b1 (fX12_must 4 μ44) (fun μ47 => (if (μ47.1 0 13) ≤ 0 then gd (ix (μ47.1 0 19) 2) (gd (ix x2 403) (gd (ix (μ47.1 9 ((μ47.1 0 19).toNatClampNeg)) 6) (bd (upL μ47 8 ((μ47.1 9 ((μ47.1 0 19).toNatClampNeg)).toNatClampNeg) (μ47.2 6 x2.toNatClampNeg)) (fun μ51 => gd (ix (μ51.1 0 19) 2) (gd (ix (μ51.1 0 19) 2) (bd (upI μ51 9 ((μ51.1 0 19).toNatClampNeg) ((μ51.1 9 ((μ51.1 0 19).toNatClampNeg)) + 1)) (fun μ55 => some μ55))))))) else some μ47))
theorem b82_eq {x1 : Nat} {x2 : Int32} {ν : Mem} : fX12_tellHouse_b82 (nI x1) x2 ν = HMx x1 (K82 x2) 5 0 ν := rfl
def FSm (pl : Nat → Int32) (sd : Nat) (ν0 : Mem) (x t' : Nat) (ν : Mem) : Prop := ν.1 0 13 = nI x ∧ ν.1 0 14 = pl t' ∧ FHm sd ν0 ν
theorem FSm_tr {pl : Nat → Int32} {sd : Nat} {ν0 : Mem} {x t' : Nat} {ν ν' : Mem} (h : FSm pl sd ν0 x t' ν) (hf : FHm sd ν ν') (h1 : ν'.1 0 13 = ν.1 0 13) (h2 : ν'.1 0 14 = ν.1 0 14) : FSm pl sd ν0 x t' ν' := ⟨h1.trans h.1, h2.trans h.2.1, FHm_tr h.2.2 hf⟩
theorem hm_f {pl : Nat → Int32} {sd x t' h : Nat} {ν0 : Mem} {x2 : Int32} {Q : Mem → Prop} (hx : x = 1 ∨ x = 2) (hsd : sd < 2) (hh : h < 6) (hQ : ∀ ν', FSm pl sd ν0 x t' ν' → Q ν') {r : Nat} : ∀ {i : Nat} {ν : Mem}, r + i = 5 → FSm pl sd ν0 x t' ν → Wo (HMx (6 * sd + h) (K82 x2) r i ν) Q := by
  induction r with
  | zero =>
    intro i ν hi hF
    show Wo (K82 x2 ν) Q
    unfold K82
    rw [must_f hF.1 hx, b1_some, hF.1, if_neg (nI_nle (by omega) (by omega)), Wo_some]
    exact hQ ν hF
  | succ r ih =>
    intro i ν hi hF
    show Wo (b2 (fX12_bounded (xLEAST i) (xMOST i) ν) (fun r' ν1 => gd (ix (nI (6 * sd + h)) 12) (bd (upI ν1 (10 + i) (nI (6 * sd + h)).toNatClampNeg r') (fun ν2 => HMx (6 * sd + h) (K82 x2) r (i + 1) ν2)))) Q
    rw [bounded_f hF.1 hx, b2_some, ix_nI (by omega) (by omega), gd_true, nI_clamp (by omega), bd_eq]
    exact ih (by omega) (FSm_tr hF (FHm_a (by omega) (by omega)) (by rw [rd_Ii (by omega)]) (by rw [rd_Ii (by omega)]))
theorem n34_s (K : Mem → Option Mem) (x : Int32) (n : Nat) (y : Int32) (ν : Mem) : fX12_tellHouse_l34 K x (n + 1) y ν = fX12_tellHouse_s34 (fX12_tellHouse_l34 K x n) K x y ν := rfl
theorem th_f {pl : Nat → Int32} {sd x t' h : Nat} {ν0 ν : Mem} {x2 y : Int32} {N : Nat} {Q : Mem → Prop} (hx : x = 1 ∨ x = 2) (hsd : sd < 2) (hh : h < 6) (hQ : ∀ ν', FSm pl sd ν0 x t' ν' → Q ν') (h19 : ν.1 0 19 = nI sd) (hF : FSm pl sd ν0 x t' ν) : Wo (fX12_tellHouse_l34 (fun μ15 => fX12_tellHouse_b82 (nI (6 * sd + h)) x2 μ15) x2 (N + 1) y ν) Q := by
  rw [n34_s]
  unfold fX12_tellHouse_s34
  rw [h19, ix_nI (by omega) (by omega), gd_true, nI_clamp (by omega), hF.1, if_neg (nI_ne0 (by omega) (by omega))]
  have H := hm_f (x2 := x2) hx hsd hh hQ (r := 5) (i := 0) (by omega) hF
  exact Wo_if (fun _ => H) (fun _ => H)
