theorem al_firstF {p : Nat → Bool} {g : Nat → Int32} {n b : Nat} (h : alF p g n = some b) : (∀ i, i < n → p i = true → g b ≤ g i) ∧ ∀ i, i < b → p i = true → ¬ g i ≤ g b := by
  induction n generalizing b with
  | zero => cases h
  | succ n ih =>
    by_cases hp : p n = true
    · have e : alF p g (n + 1) = (match alF p g n with | none => some n | some b => if g b ≤ g n then some b else some n) := by
        show (if p n then _ else _) = _
        rw [if_pos hp]; rfl
      rw [e] at h
      cases ha : alF p g n with
      | none =>
        rw [ha] at h
        cases h
        have hz := alF_none ha
        refine ⟨fun i hi hpi => ?_, fun i hi hpi => ?_⟩
        · by_cases he : i = n
          · rw [he]; grind
          · have := hz i (by omega); rw [hpi] at this; cases this
        · have := hz i hi; rw [hpi] at this; cases this
      | some c =>
        rw [ha] at h
        obtain ⟨h1, h2⟩ := ih ha
        dsimp only at h
        split at h
        · rename_i hle
          cases h
          refine ⟨fun i hi hpi => ?_, h2⟩
          by_cases he : i = n
          · rw [he]; exact hle
          · exact h1 i (by omega) hpi
        · rename_i hle
          cases h
          refine ⟨fun i hi hpi => ?_, fun i hi hpi => ?_⟩
          · by_cases he : i = n
            · rw [he]; grind
            · have := h1 i (by omega) hpi; grind
          · have := h1 i hi hpi; grind
    · rw [alF_stepF (by simpa using hp)] at h
      obtain ⟨h1, h2⟩ := ih h
      refine ⟨fun i hi hpi => ?_, h2⟩
      by_cases he : i = n
      · rw [he] at hpi; exact absurd hpi hp
      · exact h1 i (by omega) hpi
def rst (w : Kw) : Nat → Nat → Nat → Int32
  | 0, _, _ => 0
  | m + 1, x, h => oV (fun o => fr w h o + rst w m (x ||| 2 ^ o) o) 0 (alF (fun o => !x.testBit o) (fun o => fr w h o + rst w m (x ||| 2 ^ o) o) (kn w))
def cR (w : Kw) (m x h o : Nat) : Int32 := fr w h o + rst w m (x ||| 2 ^ o) o
def nx (w : Kw) (m x h : Nat) : Nat := match alF (fun o => !x.testBit o) (cR w m x h) (kn w) with
  | none => 0
  | some b => b
theorem nx_al {w : Kw} {m x h : Nat} (hn : kn w ≤ 6) (hx : x < 2 ^ kn w) (hp : pcn x < kn w) : alF (fun o => !x.testBit o) (cR w m x h) (kn w) = some (nx w m x h) ∧ nx w m x h < kn w ∧ x.testBit (nx w m x h) = false := by
  obtain ⟨b, e, h1, h2⟩ := al_free (g := cR w m x h) hn hx hp
  have : nx w m x h = b := by unfold nx; rw [e]
  rw [this]
  exact ⟨e, h1, h2⟩
theorem rst_s {w : Kw} {m x h : Nat} (hn : kn w ≤ 6) (hx : x < 2 ^ kn w) (hp : pcn x < kn w) : rst w (m + 1) x h = cR w m x h (nx w m x h) := by
  show oV (cR w m x h) 0 (alF (fun o => !x.testBit o) (cR w m x h) (kn w)) = _
  rw [(nx_al hn hx hp).1]; rfl
theorem fr_nI {w : Kw} {h o : Nat} (hK : KZ w) (hh : h < kn w) (ho : o < kn w) : ∃ v, v ≤ 198 ∧ fr w h o = nI v := rng_nI (n := 198) rfl (fr_rng hK hh ho)
theorem rst_nI {w : Kw} (hK : KZ w) {m : Nat} : ∀ {x h : Nat}, x < 2 ^ kn w → h < kn w → pcn x + m = kn w → ∃ v, v ≤ 198 * m ∧ rst w m x h = nI v := by
  have hn := hK.1.1
  induction m with
  | zero => intro x h _ _ _; exact ⟨0, by omega, rfl⟩
  | succ m ih =>
    intro x h hx hh hp
    obtain ⟨e, h1, h2⟩ := @nx_al w m x h hn hx (by omega)
    obtain ⟨v, hv, ev⟩ := ih (or_lt hx h1) h1 (by rw [pc_or hn hx h1 h2]; omega)
    obtain ⟨u, hu, eu⟩ := fr_nI hK hh h1
    refine ⟨u + v, by omega, ?_⟩
    rw [rst_s hn hx (by omega)]
    unfold cR
    rw [ev, eu, nI_add]
theorem cR_nI {w : Kw} (hK : KZ w) {m x h o : Nat} (hx : x < 2 ^ kn w) (hh : h < kn w) (ho : o < kn w) (hb : x.testBit o = false) (hp : pcn x + (m + 1) = kn w) : ∃ v, v ≤ 198 * (m + 1) ∧ cR w m x h o = nI v := by
  have hn := hK.1.1
  obtain ⟨v, hv, ev⟩ := @rst_nI w hK m (x ||| 2 ^ o) o (or_lt hx ho) ho (by rw [pc_or hn hx ho hb]; omega)
  obtain ⟨u, hu, eu⟩ := fr_nI hK hh ho
  refine ⟨u + v, by omega, ?_⟩
  unfold cR
  rw [ev, eu, nI_add]
def pth (w : Kw) : Nat → Nat → Nat → Nat → Nat
  | 0, _, _, _ => 0
  | m + 1, x, h, 0 => nx w m x h
  | m + 1, x, h, k + 1 => pth w m (x ||| 2 ^ nx w m x h) (nx w m x h) k
def Fy (μ s : Mem) : Prop := (∀ j, ¬ (177 ≤ j ∧ j ≤ 179) → s.1 j = μ.1 j) ∧ s.2 = μ.2
theorem Fy_tr {a b c : Mem} (h : Fy a b) (h2 : Fy b c) : Fy a c := ⟨fun j x => (h2.1 j x).trans (h.1 j x), h2.2.trans h.2⟩
theorem Fy_up {μ : Mem} {j k : Nat} {v : Int32} (h : 177 ≤ j ∧ j ≤ 179) : Fy μ (upI μ j k v) := ⟨fun i _ => rd_Ii (by omega), rfl⟩
theorem Fy_KC {μ s : Mem} (h : Fy μ s) : KC μ s := ⟨fun j a b c d => h.1 j (by omega), h.2, MqE_of (fun j hj => h.1 j (by omega))⟩
/-- the search from here: what is shortest and best behind it -/
def Gp (w : Kw) (μ : Mem) (step : Nat) (S T : Int32) (P : Nat → Nat) (s : Mem) : Prop := (T < S ∧ s.1 177 2 = T ∧ ∀ k, k < kn w → s.1 179 k = if k < step then μ.1 178 k else nI (P (k - step))) ∨ (¬ T < S ∧ s.1 177 2 = S ∧ s.1 179 = μ.1 179)
theorem go14_c {w : Kw} {μ : Mem} {go : Nat → Int32 → Int32 → Int32 → Mem → Option Mem} {l : Int32} {P : Nat → Nat} (hn : kn w ≤ 6) : Wo (fX10_goOn_b14 go 17 l μ) (fun s => Fy μ s ∧ s.1 178 = μ.1 178 ∧ Gp w μ (kn w) (μ.1 177 2) l P s) := by
  unfold fX10_goOn_b14
  refine Wo_if (fun hc => ?_) (fun hc => ?_)
  · rw [Wo_some]
    exact ⟨⟨fun _ _ => rfl, rfl⟩, rfl, Or.inr ⟨by grind, rfl, rfl⟩⟩
  · rw [bd_eq, show cpo 0 0 6 6 6 = true from by decide, gd_true, bd_eq, Wo_some]
    refine ⟨⟨fun j hj => ?_, rfl⟩, ?_, Or.inl ⟨by grind, ?_, fun k hk => ?_⟩⟩
    · rw [(upA_ne (by omega)).1, rd_Ii (by omega)]
    · rw [(upA_ne (by omega)).1, rd_Ii (by omega)]
    · rw [(upA_ne (by omega)).1, rd_Is]
    · rw [upA_eq, if_pos hk, show (6 : Int32).toNatClampNeg = 6 from rfl, show (0 : Int32).toNatClampNeg = 0 from rfl, pk_cpy_in (Nat.zero_le _) (by omega), rd_Ii (by omega), Nat.zero_add, Nat.sub_zero]
theorem sm_lt {l c d : Nat} (hl : l ≤ 3000) (hc : c ≤ 3000) (hd : d ≤ 3000) : nI l + nI c < nI l + nI d ↔ nI c < nI d := by
  rw [nI_add, nI_add, nI_ltI (by omega) (by omega), nI_ltI (by omega) (by omega)]; omega
/-- what one more house tried does to what was best -/
theorem Gp_step {w : Kw} {μ s s' : Mem} {step i m x h l : Nat} {S : Int32} (hK : KZ w) (hx : x < 2 ^ kn w) (hh : h < kn w) (hi : i < kn w) (hb : x.testBit i = false) (hp : pcn x + (m + 1) = kn w) (hl : l ≤ 1200) (h178 : ∀ k, k < step → s.1 178 k = μ.1 178 k) (hs : step = kn w - (m + 1))
    (h0 : match alF (fun o => !x.testBit o) (cR w m x h) i with
      | none => s.1 177 2 = S ∧ s.1 179 = μ.1 179
      | some b => Gp w μ step S (nI l + cR w m x h b) (fun k => if k = 0 then b else pth w m (x ||| 2 ^ b) b (k - 1)) s)
    (h1 : Gp w (upI s 178 step (nI i)) (step + 1) (s.1 177 2) (nI l + cR w m x h i) (pth w m (x ||| 2 ^ i) i) s') :
    ∃ b, alF (fun o => !x.testBit o) (cR w m x h) (i + 1) = some b ∧ Gp w μ step S (nI l + cR w m x h b) (fun k => if k = 0 then b else pth w m (x ||| 2 ^ b) b (k - 1)) s' := by
  have hn := hK.1.1
  have e : alF (fun o => !x.testBit o) (cR w m x h) (i + 1) = (match alF (fun o => !x.testBit o) (cR w m x h) i with | none => some i | some b => if cR w m x h b ≤ cR w m x h i then some b else some i) := by
    show (if !x.testBit i then _ else _) = _
    rw [if_pos (by rw [hb]; rfl)]; rfl
  obtain ⟨vi, hvi, ei⟩ := cR_nI hK hx hh hi hb hp
  have new : ∀ k, k < kn w → (if k < step + 1 then (upI s 178 step (nI i)).1 178 k else nI (pth w m (x ||| 2 ^ i) i (k - (step + 1)))) = if k < step then μ.1 178 k else nI ((fun k => if k = 0 then i else pth w m (x ||| 2 ^ i) i (k - 1)) (k - step)) := by
    intro k hk
    by_cases h1 : k < step
    · rw [if_pos (by omega), if_pos h1, rd_Ik (by omega)]; exact h178 k h1
    · rw [if_neg h1]
      by_cases h2 : k = step
      · subst h2
        rw [if_pos (by omega), rd_Is]
        dsimp only
        rw [if_pos (by omega)]
      · rw [if_neg (by omega)]
        dsimp only
        rw [if_neg (by omega), show k - (step + 1) = k - step - 1 by omega]
  have e179 : (upI s 178 step (nI i)).1 179 = s.1 179 := rd_Ii (by omega)
  cases ha : alF (fun o => !x.testBit o) (cR w m x h) i with
  | none =>
    rw [ha] at e h0
    obtain ⟨g1, g2⟩ := h0
    refine ⟨i, e, ?_⟩
    rw [g1] at h1
    rcases h1 with ⟨a1, a2, a3⟩ | ⟨a1, a2, a3⟩
    · exact Or.inl ⟨a1, a2, fun k hk => (a3 k hk).trans (new k hk)⟩
    · exact Or.inr ⟨a1, a2, by rw [a3, e179, g2]⟩
  | some b =>
    have hb2 := alF_lt ha
    obtain ⟨vb, hvb, eb⟩ := cR_nI hK hx hh (show b < kn w by omega) (by simpa using hb2.2) hp
    rw [ha] at e h0
    dsimp only at e h0
    rcases h0 with ⟨g1, g2, g3⟩ | ⟨g1, g2, g3⟩
    · rw [g2] at h1
      rcases h1 with ⟨a1, a2, a3⟩ | ⟨a1, a2, a3⟩
      · have hlt : ¬ cR w m x h b ≤ cR w m x h i := by
          rw [ei, eb] at a1 ⊢
          rw [sm_lt (by omega) (by omega) (by omega)] at a1
          rw [nI_ltI (by omega) (by omega)] at a1
          rw [nI_leI (by omega) (by omega)]; omega
        rw [if_neg hlt] at e
        refine ⟨i, e, Or.inl ⟨?_, a2, fun k hk => (a3 k hk).trans (new k hk)⟩⟩
        grind
      · have hle : cR w m x h b ≤ cR w m x h i := by
          rw [ei, eb] at a1 ⊢
          rw [sm_lt (by omega) (by omega) (by omega)] at a1
          rw [nI_ltI (by omega) (by omega)] at a1
          rw [nI_leI (by omega) (by omega)]; omega
        rw [if_pos hle] at e
        exact ⟨b, e, Or.inl ⟨g1, a2, fun k hk => by rw [a3, e179]; exact g3 k hk⟩⟩
    · rw [g2] at h1
      rcases h1 with ⟨a1, a2, a3⟩ | ⟨a1, a2, a3⟩
      · have hlt : ¬ cR w m x h b ≤ cR w m x h i := by
          have h3 : nI l + cR w m x h i < nI l + cR w m x h b := by grind
          rw [ei, eb] at h3 ⊢
          rw [sm_lt (by omega) (by omega) (by omega)] at h3
          rw [nI_ltI (by omega) (by omega)] at h3
          rw [nI_leI (by omega) (by omega)]; omega
        rw [if_neg hlt] at e
        exact ⟨i, e, Or.inl ⟨a1, a2, fun k hk => (a3 k hk).trans (new k hk)⟩⟩
      · by_cases hle : cR w m x h b ≤ cR w m x h i
        · rw [if_pos hle] at e
          exact ⟨b, e, Or.inr ⟨g1, a2, by rw [a3, e179, g3]⟩⟩
        · rw [if_neg hle] at e
          exact ⟨i, e, Or.inr ⟨a1, a2, by rw [a3, e179, g3]⟩⟩
