def WCL : List Int64 := [4562600, 1900846, 12256318, 3211399, 7017481, 1890640, 365640, 158448, 377761, 249, 399641, 107681, 8533099, 38567165, 161156, 220610, 307058, 174879964, 1489745, 2968, 12387257]
def WKL : List Int64 := [4562600, 1900846, 12256318, 3211399, 7017481, 1890640, 365640, 158448, 377761, 249, 399641, 107681, 8533099, 38567165, 161156, 220610, 307058, 2968, 12387257, 174879964, 1489745]
def MoE (μ : Mem) : Prop := μ.1 120 0 = 30 ∧ μ.1 139 0 = 10 ∧ μ.1 158 0 = 10
def MqE (μ μ' : Mem) : Prop := μ'.1 120 0 = μ.1 120 0 ∧ μ'.1 139 0 = μ.1 139 0 ∧ μ'.1 158 0 = μ.1 158 0
theorem MqE_of {μ μ' : Mem} (h : ∀ j, j = 120 ∨ j = 139 ∨ j = 158 → μ'.1 j = μ.1 j) : MqE μ μ' := ⟨by rw [h 120 (by omega)], by rw [h 139 (by omega)], by rw [h 158 (by omega)]⟩
theorem MqE_tr {a b c : Mem} (h : MqE a b) (h2 : MqE b c) : MqE a c := ⟨h2.1.trans h.1, h2.2.1.trans h.2.1, h2.2.2.trans h.2.2⟩
theorem MO_MqE {μ μ' : Mem} (h : MoE μ) (q : MqE μ μ') : MoE μ' := ⟨q.1.trans h.1, q.2.1.trans h.2.1, q.2.2.trans h.2.2⟩
def WT (μ ν : Mem) : Prop := MoE μ ∧ (∀ i, i < 21 → μ.2 5 i = WCL.getD i 0) ∧ ∀ i, i < 21 → ν.2 7 i = WKL.getD i 0
def GS (w : Kw) (R : Rw) : Prop := RG w R ∧ (0 ≤ R 37 ∧ R 37 ≤ 9999) ∧ ∀ h, kn w ≤ h → h < 6 → R (12 + h) = 0
def KZ (w : Kw) : Prop := KW w ∧ (∀ h, h < kn w → 1 ≤ kp w h) ∧ (∀ h, h < kn w → (0 ≤ kx w h ∧ kx w h ≤ 99) ∧ (0 ≤ ky w h ∧ ky w h ≤ 99)) ∧ (1 ≤ kroof w ∧ kroof w ≤ 99)
def HC (μ : Mem) (pan : Rw) (hs : List Rw) : Prop := μ.1 30 4 = nI hs.length ∧ ∃ nw, nw < 40 ∧ μ.1 30 3 = nI nw ∧ ∀ i R, hs[i]? = some R → SF μ (32 + 2 * ((nw + 40 - i) % 40)) pan R
def HH (w : Kw) (μ ν : Mem) : Prop := ∃ hs : List Rw, (∀ R ∈ hs, GS w R) ∧ HC μ (kp w) hs ∧ HM ν hs
def SS (w : Kw) (μ ν : Mem) : Prop := ∀ s, s < 3 → (μ.1 119 s = 0 ∧ ν.1 47 s = 0) ∨ ∃ R, GS w R ∧ μ.1 119 s = 1 ∧ ν.1 47 s = 1 ∧ SF μ (113 + 2 * s) (kp w) R ∧ ∀ k, k < 39 → ν.1 48 (39 * s + k) = R k
def TT (μ ν : Mem) : Prop := ∃ t, t ≤ 20 ∧ μ.1 186 3 = nI t ∧ ν.1 0 63 = nI t ∧ ∀ i, i < t → ∃ m, m < 4 ∧ μ.1 187 i = nI m ∧ ν.1 44 i = nI m ∧ μ.1 188 i = ν.1 45 i ∧ μ.1 189 i = ν.1 46 i ∧ (μ.1 189 i = 0 ∨ μ.1 189 i = 1)
def TP (μ ν : Mem) : Prop := ∃ T, T ≤ 2000 ∧ μ.1 1 15 = nI T ∧ ν.1 0 2 = nI T ∧ ∀ i, i < T → μ.1 2 i = ν.1 1 i ∧ -128 ≤ μ.1 2 i ∧ μ.1 2 i ≤ 127
def REL (μ ν : Mem) : Prop := ∃ (w : Kw) (L : Nat) (R : Rw), KZ w ∧ QC w μ ∧ QL w L ν ∧ GS w R ∧ SF μ 24 (kp w) R ∧ NR ν R ∧ HH w μ ν ∧ SS w μ ν ∧ TT μ ν ∧ TP μ ν ∧ μ.1 1 16 = ν.1 0 17 ∧ WT μ ν
theorem HH_fr {w : Kw} {μ ν μ' ν' : Mem} (h : HH w μ ν) (h1 : ∀ j, 30 ≤ j → j ≤ 111 → μ'.1 j = μ.1 j) (h2 : ν'.1 35 = ν.1 35) (h3 : ν'.1 0 53 = ν.1 0 53) : HH w μ' ν' := by
  obtain ⟨hs, a, ⟨b1, nw, b2, b3, b4⟩, c1, c2, c3⟩ := h
  refine ⟨hs, a, ⟨?_, nw, b2, ?_, fun i R hi => SF_fr (b4 i R hi) (h1 _ (by omega) (by omega)) (h1 _ (by omega) (by omega))⟩, c1, h3.trans c2, ?_⟩
  · rw [h1 30 (by omega) (by omega)]; exact b1
  · rw [h1 30 (by omega) (by omega)]; exact b3
  · rw [h2]; exact c3
theorem SS_fr {w : Kw} {μ ν μ' ν' : Mem} (h : SS w μ ν) (h1 : ∀ j, 113 ≤ j → j ≤ 119 → μ'.1 j = μ.1 j) (h2 : ν'.1 47 = ν.1 47) (h3 : ν'.1 48 = ν.1 48) : SS w μ' ν' := by
  intro s hs
  rw [h2, h3, h1 119 (by omega) (by omega)]
  rcases h s hs with h | ⟨R, a, b, c, d, e⟩
  · exact Or.inl h
  · exact Or.inr ⟨R, a, b, c, SF_fr d (h1 _ (by omega) (by omega)) (h1 _ (by omega) (by omega)), e⟩
theorem TT_fr {μ ν μ' ν' : Mem} (h : TT μ ν) (h1 : ∀ j, 186 ≤ j → j ≤ 189 → μ'.1 j = μ.1 j) (h2 : ∀ j, 44 ≤ j → j ≤ 46 → ν'.1 j = ν.1 j) (h3 : ν'.1 0 63 = ν.1 0 63) : TT μ' ν' := by
  obtain ⟨t, a, b, c, d⟩ := h
  refine ⟨t, a, ?_, h3.trans c, ?_⟩
  · rw [h1 186 (by omega) (by omega)]; exact b
  · rw [h1 187 (by omega) (by omega), h1 188 (by omega) (by omega), h1 189 (by omega) (by omega), h2 44 (by omega) (by omega), h2 45 (by omega) (by omega), h2 46 (by omega) (by omega)]; exact d
theorem TP_fr {μ ν μ' ν' : Mem} (h : TP μ ν) (h1 : μ'.1 1 15 = μ.1 1 15) (h2 : ν'.1 0 2 = ν.1 0 2) (h3 : μ'.1 2 = μ.1 2) (h4 : ν'.1 1 = ν.1 1) : TP μ' ν' := by
  obtain ⟨T, a, b, c, d⟩ := h
  refine ⟨T, a, h1.trans b, h2.trans c, ?_⟩
  rw [h3, h4]; exact d
theorem NR_fr {ν ν' : Mem} {R : Rw} (h : NR ν R) (hf : ν'.1 31 = ν.1 31) : NR ν' R := by
  intro i hi; rw [hf]; exact h i hi
theorem WT_fr {μ ν μ' ν' : Mem} (h : WT μ ν) (q : MqE μ μ') (h1 : μ'.2 5 = μ.2 5) (h2 : ν'.2 7 = ν.2 7) : WT μ' ν' := by
  unfold WT; rw [h1, h2]; exact ⟨MO_MqE h.1 q, h.2⟩
def KC (μ μ' : Mem) : Prop := (∀ j, j ≠ 23 → ¬ (26 ≤ j ∧ j ≤ 29) → ¬ (120 ≤ j ∧ j ≤ 185) → j ≠ 190 → μ'.1 j = μ.1 j) ∧ μ'.2 = μ.2 ∧ MqE μ μ'
theorem KC_rfl {μ : Mem} : KC μ μ := ⟨fun _ _ _ _ _ => rfl, rfl, rfl, rfl, rfl⟩
theorem KC_tr {a b c : Mem} (h : KC a b) (h2 : KC b c) : KC a c := ⟨fun j h0 h1 h3 h4 => (h2.1 j h0 h1 h3 h4).trans (h.1 j h0 h1 h3 h4), h2.2.1.trans h.2.1, MqE_tr h.2.2 h2.2.2⟩
theorem KC_up {μ : Mem} {j k : Nat} {v : Int32} (h : j = 23 ∨ (26 ≤ j ∧ j ≤ 29) ∨ ((120 ≤ j ∧ j ≤ 185) ∧ j ≠ 120 ∧ j ≠ 139 ∧ j ≠ 158) ∨ j = 190) : KC μ (upI μ j k v) := ⟨fun i _ _ _ _ => rd_Ii (by omega), rfl, MqE_of (fun i hi => rd_Ii (by omega))⟩
theorem KC_upm {μ : Mem} {j k : Nat} {v : Int32} (h : j = 120 ∨ j = 139 ∨ j = 158) (hk : k ≠ 0) : KC μ (upI μ j k v) := by
  refine ⟨fun i _ _ _ _ => rd_Ii (by omega), rfl, ?_⟩
  rcases h with rfl | rfl | rfl
  · exact ⟨rd_Ik (by omega), by rw [rd_Ii (by omega)], by rw [rd_Ii (by omega)]⟩
  · exact ⟨by rw [rd_Ii (by omega)], rd_Ik (by omega), by rw [rd_Ii (by omega)]⟩
  · exact ⟨by rw [rd_Ii (by omega)], by rw [rd_Ii (by omega)], rd_Ik (by omega)⟩
theorem KC_Fs {q : Nat} {μ μ' : Mem} (h : Fs q μ μ') (hq : q = 26 ∨ q = 28 ∨ q = 121 ∨ q = 140 ∨ q = 159) : KC μ μ' := ⟨fun j a b c d => h.1 j (by omega) (by omega) a, h.2, MqE_of (fun j hj => h.1 j (by omega) (by omega) (by omega))⟩
theorem KC_law {μ μ' : Mem} (h : ∀ j, j ≠ 23 → μ'.1 j = μ.1 j) (h2 : μ'.2 = μ.2) : KC μ μ' := ⟨fun j a _ _ _ => h j a, h2, MqE_of (fun j hj => h j (by omega))⟩
theorem QC_KC {w : Kw} {μ μ' : Mem} (h : QC w μ) (hf : KC μ μ') : QC w μ' := QC_fr h (fun j _ _ => hf.1 j (by omega) (by omega) (by omega) (by omega))
theorem SF_KC {μ μ' : Mem} {pan R : Rw} (h : SF μ 24 pan R) (hf : KC μ μ') : SF μ' 24 pan R := SF_fr h (hf.1 24 (by omega) (by omega) (by omega) (by omega)) (hf.1 25 (by omega) (by omega) (by omega) (by omega))
theorem REL_keep {μ ν μ' ν' : Mem} (h : REL μ ν) (hc : KC μ μ') (hm : Fc ν ν') : REL μ' ν' := by
  obtain ⟨w, L, R, a1, a2, a3, a4, a5, a6, a7, a8, a9, a10, a11, a12⟩ := h
  have hc1 : ∀ j, ¬ (23 ≤ j ∧ j ≤ 29) → ¬ (120 ≤ j ∧ j ≤ 185) → j ≠ 190 → μ'.1 j = μ.1 j := fun j a b c => hc.1 j (by omega) (by omega) b c
  have hm1 : ∀ j, j ≠ 0 → ¬ (29 ≤ j ∧ j ≤ 30) → ¬ (32 ≤ j ∧ j ≤ 34) → ¬ (36 ≤ j ∧ j ≤ 43) → ν'.1 j = ν.1 j := hm.1
  have hm2 : ∀ k, ¬ (46 ≤ k ∧ k ≤ 50) → ν'.1 0 k = ν.1 0 k := fun k hk => hm.2.1 k (by omega) (by omega) (by omega)
  refine ⟨w, L, R, a1, QC_KC a2 hc, QL_Fc a3 hm, a4, SF_KC a5 hc, NR_Fc a6 hm, ?_, ?_, ?_, ?_, ?_, ?_⟩
  · exact HH_fr a7 (fun j _ _ => hc1 j (by omega) (by omega) (by omega)) (hm1 35 (by omega) (by omega) (by omega) (by omega)) (hm2 53 (by omega))
  · exact SS_fr a8 (fun j _ _ => hc1 j (by omega) (by omega) (by omega)) (hm1 47 (by omega) (by omega) (by omega) (by omega)) (hm1 48 (by omega) (by omega) (by omega) (by omega))
  · exact TT_fr a9 (fun j _ _ => hc1 j (by omega) (by omega) (by omega)) (fun j _ _ => hm1 j (by omega) (by omega) (by omega) (by omega)) (hm2 63 (by omega))
  · exact TP_fr a10 (by rw [hc1 1 (by omega) (by omega) (by omega)]) (hm2 2 (by omega)) (hc1 2 (by omega) (by omega) (by omega)) (hm1 1 (by omega) (by omega) (by omega) (by omega))
  · rw [hc1 1 (by omega) (by omega) (by omega), hm2 17 (by omega)]; exact a11
  · exact WT_fr a12 hc.2.2 (by rw [hc.2.1]) (by rw [hm.2.2])
/-- both answer alike, and nothing is changed but scratch -/
theorem rel_of {μ ν : Mem} {f g : Option (Int32 × Mem)} (h : REL μ ν) (v : Int32) (hf : Wo f (fun p => p.1 = v ∧ KC μ p.2)) (hg : Wo g (fun p => p.1 = v ∧ Fc ν p.2)) : ∃ (r : Int32) (μ' ν' : Mem), f = some (r, μ') ∧ g = some (r, ν') ∧ REL μ' ν' := by
  obtain ⟨⟨r, μ'⟩, e1, h1, h2⟩ := hf
  obtain ⟨⟨r', ν'⟩, e2, h3, h4⟩ := hg
  dsimp only at h1 h2 h3 h4
  subst h1; subst h3
  exact ⟨_, μ', ν', e1, e2, REL_keep h h2 h4⟩
theorem isHouse_c {w : Kw} {μ : Mem} (hQ : QC w μ) (x : Int32) : (fX11_isHouse x μ = some 0 ∧ (x < 0 ∨ nI (kn w) ≤ x)) ∨ ∃ h, h < kn w ∧ x = nI h ∧ fX11_isHouse x μ = some 1 := by
  unfold fX11_isHouse
  have hn := hQ.1
  rw [hQ.2.1]
  rcases pk_ix x (n := kn w) (by omega) with h | h | ⟨j, hj, rfl⟩
  · left; rw [if_pos h]; exact ⟨rfl, Or.inl h⟩
  · by_cases h0 : x < 0
    · left; rw [if_pos h0]; exact ⟨rfl, Or.inl h0⟩
    · left; rw [if_neg h0, if_pos h]; exact ⟨rfl, Or.inr h⟩
  · right
    refine ⟨j, hj, rfl, ?_⟩
    rw [if_neg (nI_pos (by omega)), if_neg (nI_ge hj (by omega))]
theorem isHouse_m {w : Kw} {L : Nat} {ν : Mem} (hQ : QL w L ν) (x : Int32) : fX12_isHouse x ν = some (if x < 0 ∨ nI (kn w) ≤ x then 0 else 1) := by
  unfold fX12_isHouse
  have hn := hQ.2.1
  rw [many_m hQ, b1_some]
  unfold fX12_in
  have hx : nI (kn w) - 1 < x ↔ nI (kn w) ≤ x := by
    have h1 := nI_pos' (n := kn w) (by omega)
    have h2 : nI (kn w) ≤ nI 6 := nI_le hn (by omega)
    rw [show nI 6 = 6 from rfl] at h2
    constructor <;> intro h <;> grind
  by_cases h0 : x < 0
  · rw [if_pos h0, b1_some, if_pos (Or.inl h0)]; rfl
  · rw [if_neg h0]
    by_cases h1 : nI (kn w) ≤ x
    · rw [if_pos (hx.mpr h1), b1_some, if_pos (Or.inr h1)]; rfl
    · rw [if_neg (fun h => h1 (hx.mp h)), b1_some, if_neg (fun h => h.elim h0 h1)]; rfl
/-- a house number: both say no, or it is one -/
theorem house_cases {w : Kw} {L : Nat} {μ ν : Mem} (hC : QC w μ) (hM : QL w L ν) (x : Int32) : (fX11_isHouse x μ = some 0 ∧ fX12_isHouse x ν = some 0) ∨ ∃ h, h < kn w ∧ x = nI h ∧ fX11_isHouse x μ = some 1 ∧ fX12_isHouse x ν = some 1 := by
  have hn := hC.1
  rcases isHouse_c hC x with ⟨h1, h2⟩ | ⟨h, h1, h2, h3⟩
  · left; refine ⟨h1, ?_⟩; rw [isHouse_m hM, if_pos h2]
  · right; refine ⟨h, h1, h2, h3, ?_⟩
    rw [isHouse_m hM, if_neg]
    subst h2
    rintro (h | h)
    · exact nI_pos (by omega) h
    · exact nI_ge h1 (by omega) h
theorem in_c {x a b : Int32} : fX12_in x a b = some (if x < a ∨ b < x then 0 else 1) := by
  unfold fX12_in
  by_cases h0 : x < a
  · rw [if_pos h0, if_pos (Or.inl h0)]
  · rw [if_neg h0]
    by_cases h1 : b < x
    · rw [if_pos h1, if_pos (Or.inr h1)]
    · rw [if_neg h1, if_neg (fun h => h.elim h0 h1)]
