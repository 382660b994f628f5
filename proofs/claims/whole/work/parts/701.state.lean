abbrev Kw : Type := (Nat → (Nat → Int32) → Int32) × Nat × (Nat → Int32) × (Nat → Int32) × (Nat → Int32) × Int32 × Int32 × Int32
def kLV (w : Kw) : Nat → (Nat → Int32) → Int32 := w.1
def kn (w : Kw) : Nat := w.2.1
def kp (w : Kw) : Nat → Int32 := w.2.2.1
def kx (w : Kw) : Nat → Int32 := w.2.2.2.1
def ky (w : Kw) : Nat → Int32 := w.2.2.2.2.1
def kroof (w : Kw) : Int32 := w.2.2.2.2.2.1
def khail (w : Kw) : Int32 := w.2.2.2.2.2.2.1
def kseed (w : Kw) : Int32 := w.2.2.2.2.2.2.2
/-- a row's place of a house's cell (1 broken, 2 heat, 3 kept, 4 open, 5 leaves, 6 burnt) -/
def HV (pan R : Nat → Int32) (h i : Nat) : Int32 := if i = 0 then pan h else if i < 5 then R (6 * (i - 1) + h) else if i = 5 then R 36 else if i = 6 then nI h else if i = 7 then R (24 + h) else R (30 + h)
def SR (μ : Mem) (q : Nat) (pan R : Nat → Int32) : Prop := (∀ h, h < 6 → μ.1 (q + 1) (7 * h) = pan h) ∧ (∀ h c, h < 6 → 1 ≤ c → c < 7 → μ.1 (q + 1) (7 * h + c) = R (6 * (c - 1) + h)) ∧ μ.1 q 1 = R 36
def Fs (q : Nat) (μ μ' : Mem) : Prop := (∀ j, j ≠ q → j ≠ q + 1 → j ≠ 23 → μ'.1 j = μ.1 j) ∧ μ'.2 = μ.2
theorem Fs_rfl {q : Nat} {μ : Mem} : Fs q μ μ := ⟨fun _ _ _ _ => rfl, rfl⟩
theorem Fs_tr {q : Nat} {a b c : Mem} (h : Fs q a b) (h2 : Fs q b c) : Fs q a c := ⟨fun j h0 h1 h3 => (h2.1 j h0 h1 h3).trans (h.1 j h0 h1 h3), h2.2.trans h.2⟩
theorem Fs_cell {q k : Nat} {μ : Mem} {v : Int32} : Fs q μ (upI μ (q + 1) k v) := ⟨fun j h0 h1 h3 => rd_Ii h1, rfl⟩
theorem Fs_obj {q k : Nat} {μ : Mem} {v : Int32} : Fs q μ (upI μ q k v) := ⟨fun j h0 h1 h3 => rd_Ii h0, rfl⟩
theorem SR_cell {μ : Mem} {q : Nat} {pan R : Nat → Int32} (hS : SR μ q pan R) {h c : Nat} (hh : h < 6) (h1 : 1 ≤ c) (h7 : c < 7) (v : Int32) : SR (upI μ (q + 1) (7 * h + c) v) q pan (upd R (6 * (c - 1) + h) v) := by
  refine ⟨fun h' hh' => ?_, fun h' c' hh' h1' h7' => ?_, ?_⟩
  · rw [rd_Ik (by omega)]; exact hS.1 h' hh'
  · by_cases he : h' = h ∧ c' = c
    · obtain ⟨rfl, rfl⟩ := he
      rw [rd_Is, pk_us]
    · rw [rd_Ik (by omega), pk_un (by omega)]
      exact hS.2.1 h' c' hh' h1' h7'
  · rw [rd_Ii (by omega), pk_un (by omega)]; exact hS.2.2
theorem SR_day {μ : Mem} {q : Nat} {pan R : Nat → Int32} (hS : SR μ q pan R) (v : Int32) : SR (upI μ q 1 v) q pan (upd R 36 v) := by
  refine ⟨fun h' hh' => ?_, fun h' c' hh' h1' h7' => ?_, ?_⟩
  · rw [rd_Ii (by omega)]; exact hS.1 h' hh'
  · rw [rd_Ii (by omega), pk_un (by omega)]; exact hS.2.1 h' c' hh' h1' h7'
  · rw [rd_Is, pk_us]
theorem SR_obj {μ : Mem} {q k : Nat} {pan R : Nat → Int32} (hS : SR μ q pan R) (hk : k ≠ 1) (v : Int32) : SR (upI μ q k v) q pan R := by
  refine ⟨fun h' hh' => ?_, fun h' c' hh' h1' h7' => ?_, ?_⟩
  · rw [rd_Ii (by omega)]; exact hS.1 h' hh'
  · rw [rd_Ii (by omega)]; exact hS.2.1 h' c' hh' h1' h7'
  · rw [rd_Ik (by omega)]; exact hS.2.2
theorem SR_big {μ : Mem} {q k : Nat} {pan R : Nat → Int32} (hS : SR μ q pan R) (hk : 37 ≤ k) (v : Int32) : SR μ q pan (upd R k v) := by
  refine ⟨hS.1, fun h' c' hh' h1' h7' => ?_, ?_⟩
  · rw [pk_un (by omega)]; exact hS.2.1 h' c' hh' h1' h7'
  · rw [pk_un (by omega)]; exact hS.2.2
theorem SR_fr {μ μ' : Mem} {q : Nat} {pan R : Nat → Int32} (hS : SR μ q pan R) (h : μ'.1 q = μ.1 q) (h2 : μ'.1 (q + 1) = μ.1 (q + 1)) : SR μ' q pan R := by
  unfold SR; rw [h, h2]; exact hS
theorem SR_ext {μ : Mem} {q : Nat} {pan R R' : Nat → Int32} (hS : SR μ q pan R) (h : ∀ k, k < 37 → R' k = R k) : SR μ q pan R' := by
  refine ⟨hS.1, fun h' c' hh' h1' h7' => ?_, ?_⟩
  · rw [h _ (by omega)]; exact hS.2.1 h' c' hh' h1' h7'
  · rw [h _ (by omega)]; exact hS.2.2
theorem get_c {q h c : Nat} {μ : Mem} (hh : h < 6) (hc : c < 7) : fX7_get q (nI h) (nI c) μ = some (μ.1 (q + 1) (7 * h + c)) := by
  unfold fX7_get
  simp (disch := omega) only [L_add, L_add2, L_mul, L_mul2, L_sub, nI_add, pk_mul, pk_sub, L_le, L_le2, L_lt, L_lt2, L_eq, L_eq2, nI_leI, nI_ltI, nI_eq, nI_clamp, ix_nI, ix_lit, L_cl, if_pos, if_neg, Wo_b1, Wo_b2, Wo_gd, Wo_some, Wo_bd, b1_some, b2_some, gd_true, bd_eq, true_and, Nat.mul_comm h]
theorem get_p {μ : Mem} {q h : Nat} {pan R : Nat → Int32} (hS : SR μ q pan R) (hh : h < 6) : fX7_get q (nI h) 0 μ = some (pan h) := by
  rw [show (0 : Int32) = nI 0 from rfl, get_c hh (by omega)]; exact congrArg some (hS.1 h hh)
theorem get_1 {μ : Mem} {q h : Nat} {pan R : Nat → Int32} (hS : SR μ q pan R) (hh : h < 6) : fX7_get q (nI h) 1 μ = some (R h) := by
  rw [show (1 : Int32) = nI 1 from rfl, get_c hh (by omega), hS.2.1 h 1 hh (by omega) (by omega)]; simp only [Nat.sub_self, Nat.mul_zero, Nat.zero_add]
theorem get_2 {μ : Mem} {q h : Nat} {pan R : Nat → Int32} (hS : SR μ q pan R) (hh : h < 6) : fX7_get q (nI h) 2 μ = some (R (6 + h)) := by
  rw [show (2 : Int32) = nI 2 from rfl, get_c hh (by omega), hS.2.1 h 2 hh (by omega) (by omega)]
theorem get_3 {μ : Mem} {q h : Nat} {pan R : Nat → Int32} (hS : SR μ q pan R) (hh : h < 6) : fX7_get q (nI h) 3 μ = some (R (12 + h)) := by
  rw [show (3 : Int32) = nI 3 from rfl, get_c hh (by omega), hS.2.1 h 3 hh (by omega) (by omega)]
theorem get_4 {μ : Mem} {q h : Nat} {pan R : Nat → Int32} (hS : SR μ q pan R) (hh : h < 6) : fX7_get q (nI h) 4 μ = some (R (18 + h)) := by
  rw [show (4 : Int32) = nI 4 from rfl, get_c hh (by omega), hS.2.1 h 4 hh (by omega) (by omega)]
theorem get_5 {μ : Mem} {q h : Nat} {pan R : Nat → Int32} (hS : SR μ q pan R) (hh : h < 6) : fX7_get q (nI h) 5 μ = some (R (24 + h)) := by
  rw [show (5 : Int32) = nI 5 from rfl, get_c hh (by omega), hS.2.1 h 5 hh (by omega) (by omega)]
theorem get_6 {μ : Mem} {q h : Nat} {pan R : Nat → Int32} (hS : SR μ q pan R) (hh : h < 6) : fX7_get q (nI h) 6 μ = some (R (30 + h)) := by
  rw [show (6 : Int32) = nI 6 from rfl, get_c hh (by omega), hS.2.1 h 6 hh (by omega) (by omega)]
theorem set_c {q h c : Nat} {μ : Mem} {v : Int32} (hh : h < 6) (hc : c < 7) : fX7_set q (nI h) (nI c) v μ = some (upI μ (q + 1) (7 * h + c) v) := by
  unfold fX7_set
  simp (disch := omega) only [L_add, L_add2, L_mul, L_mul2, L_sub, nI_add, pk_mul, pk_sub, L_le, L_le2, L_lt, L_lt2, L_eq, L_eq2, nI_leI, nI_ltI, nI_eq, nI_clamp, ix_nI, ix_lit, L_cl, if_pos, if_neg, Wo_b1, Wo_b2, Wo_gd, Wo_some, Wo_bd, b1_some, b2_some, gd_true, bd_eq, true_and, Nat.mul_comm h]
theorem set_1 {q h : Nat} {μ : Mem} {v : Int32} (hh : h < 6) : fX7_set q (nI h) 1 v μ = some (upI μ (q + 1) (7 * h + 1) v) := set_c (c := 1) hh (by omega)
theorem set_2 {q h : Nat} {μ : Mem} {v : Int32} (hh : h < 6) : fX7_set q (nI h) 2 v μ = some (upI μ (q + 1) (7 * h + 2) v) := set_c (c := 2) hh (by omega)
theorem set_3 {q h : Nat} {μ : Mem} {v : Int32} (hh : h < 6) : fX7_set q (nI h) 3 v μ = some (upI μ (q + 1) (7 * h + 3) v) := set_c (c := 3) hh (by omega)
theorem set_4 {q h : Nat} {μ : Mem} {v : Int32} (hh : h < 6) : fX7_set q (nI h) 4 v μ = some (upI μ (q + 1) (7 * h + 4) v) := set_c (c := 4) hh (by omega)
theorem set_5 {q h : Nat} {μ : Mem} {v : Int32} (hh : h < 6) : fX7_set q (nI h) 5 v μ = some (upI μ (q + 1) (7 * h + 5) v) := set_c (c := 5) hh (by omega)
theorem set_6 {q h : Nat} {μ : Mem} {v : Int32} (hh : h < 6) : fX7_set q (nI h) 6 v μ = some (upI μ (q + 1) (7 * h + 6) v) := set_c (c := 6) hh (by omega)
/-- the laws of the class's quarter are LV -/
def LawC (μ : Mem) (LV : Nat → (Nat → Int32) → Int32) : Prop := ∀ μ' : Mem, (∀ j, 19 ≤ j → j ≤ 22 → μ'.1 j = μ.1 j) → ∀ k q h : Nat, k < 4 → 24 ≤ q → h < 6 → ∀ pan R, SR μ' q pan R → Wo (fX1_valueOf 19 (nI k) q (nI h) μ') (fun p => p.1 = LV k (HV pan R h) ∧ (∀ j, j ≠ 23 → p.2.1 j = μ'.1 j) ∧ p.2.2 = μ'.2)
/-- the class's quarter is w -/
def QC (w : Kw) (μ : Mem) : Prop := kn w ≤ 6 ∧ μ.1 17 2 = nI (kn w) ∧ μ.1 17 4 = kroof w ∧ μ.1 17 5 = khail w ∧ μ.1 17 6 = kseed w ∧ (∀ h, h < kn w → μ.1 18 (5 * h + 3) = kx w h ∧ μ.1 18 (5 * h + 4) = ky w h) ∧ LawC μ (kLV w)
theorem LawC_fr {μ μ' : Mem} {LV : Nat → (Nat → Int32) → Int32} (h : LawC μ LV) (hf : ∀ j, 19 ≤ j → j ≤ 22 → μ'.1 j = μ.1 j) : LawC μ' LV :=
  fun m hm => h m (fun j h1 h2 => (hm j h1 h2).trans (hf j h1 h2))
theorem QC_fr {w : Kw} {μ μ' : Mem} (h : QC w μ) (hf : ∀ j, 17 ≤ j → j ≤ 22 → μ'.1 j = μ.1 j) : QC w μ' := by
  obtain ⟨h1, h2, h3, h4, h5, h6, h7⟩ := h
  refine ⟨h1, ?_, ?_, ?_, ?_, ?_, LawC_fr h7 (fun j a b => hf j (by omega) b)⟩
  · rw [hf 17 (by omega) (by omega)]; exact h2
  · rw [hf 17 (by omega) (by omega)]; exact h3
  · rw [hf 17 (by omega) (by omega)]; exact h4
  · rw [hf 17 (by omega) (by omega)]; exact h5
  · rw [hf 18 (by omega) (by omega)]; exact h6
theorem QC_Fs {w : Kw} {q : Nat} {μ μ' : Mem} (h : QC w μ) (hq : 24 ≤ q) (hf : Fs q μ μ') : QC w μ' := QC_fr h (fun j a b => hf.1 j (by omega) (by omega) (by omega))
def sC (w : Kw) (R : Nat → Int32) (h : Nat) : Int32 := cl 0 99 (kLV w 0 (HV (kp w) R h))
def sW (w : Kw) (R : Nat → Int32) (h : Nat) : Int32 := cl 0 99 (kLV w 1 (HV (kp w) R h))
def sF (w : Kw) (R : Nat → Int32) (h : Nat) : Int32 := cl 0 (R (12 + h)) (kLV w 2 (HV (kp w) R h))
def sM (w : Kw) (R : Nat → Int32) (h : Nat) : Int32 := cl 0 99 (kLV w 3 (HV (kp w) R h))
def sCh (w : Kw) (R : Nat → Int32) (h : Nat) : Int32 := sC w R h * (R (18 + h) + 1)
/-- ranges -/
def RG (w : Kw) (R : Nat → Int32) : Prop := ∀ h, h < 6 → (0 ≤ R (6 + h) ∧ R (6 + h) ≤ 999) ∧ (0 ≤ R (12 + h) ∧ R (12 + h) ≤ 999) ∧ (R (18 + h) = 0 ∨ R (18 + h) = 1) ∧ (0 ≤ R h ∧ R h ≤ 20)
theorem cools_c {w : Kw} {μ : Mem} {q h : Nat} {R : Nat → Int32} (hQ : QC w μ) (hq : 24 ≤ q) (hS : SR μ q (kp w) R) (hh : h < 6) : Wo (fX3_cools 17 q (nI h) μ) (fun p => p.1 = sC w R h ∧ (∀ j, j ≠ 23 → p.2.1 j = μ.1 j) ∧ p.2.2 = μ.2) := by
  unfold fX3_cools
  rw [Wo_b2]
  refine Wo_mono (hQ.2.2.2.2.2.2 μ (fun _ _ _ => rfl) 0 q h (by omega) hq hh (kp w) R hS) ?_
  rintro ⟨r, μ'⟩ ⟨h1, h2⟩
  rw [Wo_some]
  refine ⟨?_, h2⟩
  show jmax 0 (jmin 99 r) = _
  rw [cl_cls (by decide)]; unfold sC; rw [← h1]
theorem warms_c {w : Kw} {μ : Mem} {q h : Nat} {R : Nat → Int32} (hQ : QC w μ) (hq : 24 ≤ q) (hS : SR μ q (kp w) R) (hh : h < 6) : Wo (fX3_warms 17 q (nI h) μ) (fun p => p.1 = sW w R h ∧ (∀ j, j ≠ 23 → p.2.1 j = μ.1 j) ∧ p.2.2 = μ.2) := by
  unfold fX3_warms
  rw [Wo_b2]
  refine Wo_mono (hQ.2.2.2.2.2.2 μ (fun _ _ _ => rfl) 1 q h (by omega) hq hh (kp w) R hS) ?_
  rintro ⟨r, μ'⟩ ⟨h1, h2⟩
  rw [Wo_some]
  refine ⟨?_, h2⟩
  show jmax 0 (jmin 99 r) = _
  rw [cl_cls (by decide)]; unfold sW; rw [← h1]
theorem mends_c {w : Kw} {μ : Mem} {q h : Nat} {R : Nat → Int32} (hQ : QC w μ) (hq : 24 ≤ q) (hS : SR μ q (kp w) R) (hh : h < 6) : Wo (fX3_mends 17 q (nI h) μ) (fun p => p.1 = sM w R h ∧ (∀ j, j ≠ 23 → p.2.1 j = μ.1 j) ∧ p.2.2 = μ.2) := by
  unfold fX3_mends
  rw [Wo_b2]
  refine Wo_mono (hQ.2.2.2.2.2.2 μ (fun _ _ _ => rfl) 3 q h (by omega) hq hh (kp w) R hS) ?_
  rintro ⟨r, μ'⟩ ⟨h1, h2⟩
  rw [Wo_some]
  refine ⟨?_, h2⟩
  show jmax 0 (jmin 99 r) = _
  rw [cl_cls (by decide)]; unfold sM; rw [← h1]
theorem fades_c {w : Kw} {μ : Mem} {q h : Nat} {R : Nat → Int32} (hQ : QC w μ) (hq : 24 ≤ q) (hS : SR μ q (kp w) R) (hR : RG w R) (hh : h < 6) : Wo (fX3_fades 17 q (nI h) μ) (fun p => p.1 = sF w R h ∧ (∀ j, j ≠ 23 → p.2.1 j = μ.1 j) ∧ p.2.2 = μ.2) := by
  unfold fX3_fades
  rw [get_3 hS hh, b1_some, Wo_b2]
  refine Wo_mono (hQ.2.2.2.2.2.2 μ (fun _ _ _ => rfl) 2 q h (by omega) hq hh (kp w) R hS) ?_
  rintro ⟨r, μ'⟩ ⟨h1, h2⟩
  rw [Wo_some]
  refine ⟨?_, h2⟩
  show jmax 0 (jmin _ r) = _
  rw [cl_cls (hR h hh).2.1.1]; unfold sF; rw [← h1]
