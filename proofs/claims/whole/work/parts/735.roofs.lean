def dg (n way h : Nat) : Nat := way / 6 ^ (n - 1 - h) % 6
/-- how many roofs, and what is under each, when the first houses are put by d -/
def rf (w : Kw) (d : Nat → Nat) : Nat → Option (Nat × (Nat → Int32))
  | 0 => some (0, fun _ => 0)
  | h + 1 => match rf w d h with
    | none => none
    | some s => if d h ≤ s.1 ∧ s.2 (d h) + kp w h ≤ kroof w then some (if d h = s.1 then s.1 + 1 else s.1, upd s.2 (d h) (s.2 (d h) + kp w h)) else none
def nb (w : Kw) (way : Nat) : Nat := match rf w (dg (kn w) way) (kn w) with
  | none => 7
  | some s => s.1
theorem rf_s {w : Kw} {d : Nat → Nat} {h n : Nat} {P : Nat → Int32} (e : rf w d h = some (n, P)) : rf w d (h + 1) = if d h ≤ n ∧ P (d h) + kp w h ≤ kroof w then some (if d h = n then n + 1 else n, upd P (d h) (P (d h) + kp w h)) else none := by
  show (match rf w d h with | none => none | some s => _) = _
  rw [e]
theorem rf_none {w : Kw} {d : Nat → Nat} {h h' : Nat} (e : rf w d h = none) (hh : h ≤ h') : rf w d h' = none := by
  induction h' with
  | zero => rw [show h = 0 by omega] at e; exact e
  | succ h' ih =>
    by_cases he : h = h' + 1
    · rw [← he]; exact e
    · show (match rf w d h' with | none => none | some s => _) = _
      rw [ih (by omega)]
theorem rf_mono {w : Kw} {d : Nat → Nat} {h h' n : Nat} {P : Nat → Int32} {s : Nat × (Nat → Int32)} (e : rf w d h = some (n, P)) (hh : h ≤ h') (e' : rf w d h' = some s) : n ≤ s.1 := by
  induction h' generalizing s with
  | zero => rw [show h = 0 by omega] at e; rw [e] at e'; cases e'; exact Nat.le_refl _
  | succ h' ih =>
    by_cases he : h = h' + 1
    · rw [← he, e] at e'; cases e'; exact Nat.le_refl _
    · cases e2 : rf w d h' with
      | none => rw [rf_none e2 (Nat.le_succ _)] at e'; cases e'
      | some t =>
        obtain ⟨tn, tP⟩ := t
        have := ih (by omega) e2
        rw [rf_s e2] at e'
        split at e'
        · cases e'
          dsimp only at this ⊢
          split <;> omega
        · cases e'
theorem rf_le {w : Kw} {d : Nat → Nat} {h : Nat} {s : Nat × (Nat → Int32)} (e : rf w d h = some s) : s.1 ≤ h := by
  induction h generalizing s with
  | zero => cases e; exact Nat.le_refl _
  | succ h ih =>
    cases e2 : rf w d h with
    | none => rw [rf_none e2 (Nat.le_succ _)] at e; cases e
    | some t =>
      obtain ⟨tn, tP⟩ := t
      have := ih e2
      rw [rf_s e2] at e
      split at e
      · cases e
        dsimp only at this ⊢
        split <;> omega
      · cases e
theorem kp_nI {w : Kw} (hK : KZ w) (h : Nat) : ∃ v, v ≤ 20 ∧ kp w h = nI v := rng_nI (n := 20) rfl (hK.1.2.1 h)
theorem rf_nI {w : Kw} (hK : KZ w) {d : Nat → Nat} {h : Nat} {s : Nat × (Nat → Int32)} (e : rf w d h = some s) : ∀ k, ∃ v, v ≤ 20 * h ∧ s.2 k = nI v := by
  induction h generalizing s with
  | zero => cases e; intro k; exact ⟨0, by omega, rfl⟩
  | succ h ih =>
    cases e2 : rf w d h with
    | none => rw [rf_none e2 (Nat.le_succ _)] at e; cases e
    | some t =>
      obtain ⟨tn, tP⟩ := t
      have i1 := ih e2
      rw [rf_s e2] at e
      split at e
      · cases e
        intro k
        dsimp only at i1 ⊢
        by_cases hk : k = d h
        · subst hk
          rw [pk_us]
          obtain ⟨v, hv, ev⟩ := i1 (d h)
          obtain ⟨u, hu, eu⟩ := kp_nI hK h
          exact ⟨v + u, by omega, by rw [ev, eu, nI_add]⟩
        · rw [pk_un hk]
          obtain ⟨v, hv, ev⟩ := i1 k
          exact ⟨v, by omega, ev⟩
      · cases e
/-- a house that is higher than a roof is under none -/
theorem rf_high {w : Kw} (hK : KZ w) {d : Nat → Nat} {h : Nat} (hh : h < 6) (hp : ¬ kp w h ≤ kroof w) : rf w d (h + 1) = none := by
  cases e2 : rf w d h with
  | none => exact rf_none e2 (Nat.le_succ _)
  | some t =>
    obtain ⟨tn, tP⟩ := t
    rw [rf_s e2, if_neg]
    rintro ⟨_, h2⟩
    obtain ⟨v, hv, ev⟩ := rf_nI hK e2 (d h)
    obtain ⟨u, hu, eu⟩ := kp_nI hK h
    obtain ⟨r, hr, er⟩ := rng_nI (a := kroof w) (M := 99) (n := 99) rfl ⟨by have := hK.2.2.2.1; grind, hK.2.2.2.2⟩
    dsimp only at ev
    rw [ev, eu, er, nI_add, nI_leI (by omega) (by omega)] at h2
    rw [eu, er, nI_leI (by omega) (by omega)] at hp
    omega
theorem nb_none {w : Kw} {way h : Nat} (hh : h ≤ kn w) (e : rf w (dg (kn w) way) h = none) : nb w way = 7 := by
  unfold nb
  rw [rf_none e hh]
theorem nb_rng {w : Kw} {way : Nat} : nb w way = 7 ∨ nb w way ≤ kn w := by
  unfold nb
  cases e : rf w (dg (kn w) way) (kn w) with
  | none => exact Or.inl rfl
  | some s => exact Or.inr (rf_le e)
def Fz (μ s : Mem) : Prop := (∀ j, ¬ (181 ≤ j ∧ j ≤ 182) → s.1 j = μ.1 j) ∧ s.2 = μ.2
theorem Fz_rfl {μ : Mem} : Fz μ μ := ⟨fun _ _ => rfl, rfl⟩
theorem Fz_tr {a b c : Mem} (h : Fz a b) (h2 : Fz b c) : Fz a c := ⟨fun j x => (h2.1 j x).trans (h.1 j x), h2.2.trans h.2⟩
theorem Fz_up {μ : Mem} {j k : Nat} {v : Int32} (h : 181 ≤ j ∧ j ≤ 182) : Fz μ (upI μ j k v) := ⟨fun i _ => rd_Ii (by omega), rfl⟩
theorem Fz_KC {μ s : Mem} (h : Fz μ s) : KC μ s := ⟨fun j a b c d => h.1 j (by omega), h.2, MqE_of (fun j hj => h.1 j (by omega))⟩
/-- the least way with prefix a and at most r roofs; none -/
def LGw (w : Kw) (m a r W : Nat) : Prop := W / 6 ^ m = a ∧ nb w W ≤ r ∧ ∀ v, v < W → v / 6 ^ m = a → ¬ nb w v ≤ r
def NGw (w : Kw) (m a r : Nat) : Prop := ∀ v, v / 6 ^ m = a → ¬ nb w v ≤ r
theorem pre_div {v m a : Nat} (h : v / 6 ^ (m + 1) = a) : v / 6 ^ m = a * 6 + v / 6 ^ m % 6 ∧ v / 6 ^ m % 6 < 6 := by
  have h1 : v / 6 ^ m / 6 = a := by rw [Nat.div_div_eq_div_mul, ← Nat.pow_succ]; exact h
  omega
theorem suf_div {v m a k : Nat} (h : v / 6 ^ m = a * 6 + k) (hk : k < 6) : v / 6 ^ (m + 1) = a ∧ v / 6 ^ m % 6 = k := by
  have h1 : v / 6 ^ (m + 1) = v / 6 ^ m / 6 := by rw [Nat.div_div_eq_div_mul, ← Nat.pow_succ]
  omega
theorem cover_c {w : Kw} (hK : KZ w) {R : Rw} {m : Nat} : ∀ {f h n r a : Nat} {P : Nat → Int32} {μ : Mem}, m < f → h + m = kn w → n ≤ r → r ≤ 6 → QC w μ → SR μ 24 (kp w) R → (∀ v, v / 6 ^ m = a → rf w (dg (kn w) v) h = some (n, P)) → (∀ k, k < 6 → μ.1 182 k = P k) → Wo (fX5_coverFrom f 24 17 (nI h) (nI n) (nI r) μ) (fun p => Fz μ p.2 ∧ (∀ i, i < h → p.2.1 181 i = μ.1 181 i) ∧ ((p.1 = 1 ∧ ∃ W, LGw w m a r W ∧ ∀ i, h ≤ i → i < kn w → p.2.1 181 i = nI (dg (kn w) W i)) ∨ (p.1 = 0 ∧ NGw w m a r ∧ ∀ k, k < 6 → p.2.1 182 k = P k))) := by
  have hn6 := hK.1.1
  induction m with
  | zero =>
    intro f h n r a P μ hf hh hnr hr hQ hS hp h182
    obtain ⟨f, rfl⟩ : ∃ f', f = f' + 1 := ⟨f - 1, by omega⟩
    show Wo (fX5_coverFrom_b _ _ _ _ _ _ _) _
    unfold fX5_coverFrom_b
    rw [hQ.2.1, if_pos (by rw [nI_leI (by omega) (by omega)]; omega), Wo_some]
    refine ⟨Fz_rfl, fun _ _ => rfl, Or.inl ⟨rfl, a, ⟨by rw [Nat.pow_zero, Nat.div_one], ?_, ?_⟩, fun i h1 h2 => by omega⟩⟩
    · have := hp a (by rw [Nat.pow_zero, Nat.div_one])
      rw [show h = kn w by omega] at this
      unfold nb
      rw [this]
      exact hnr
    · intro v hv h1
      rw [Nat.pow_zero, Nat.div_one] at h1
      omega
  | succ m ih =>
    intro f h n r a P μ hf hh hnr hr hQ hS hp h182
    obtain ⟨f, rfl⟩ : ∃ f', f = f' + 1 := ⟨f - 1, by omega⟩
    have hv0 : a * 6 ^ (m + 1) / 6 ^ (m + 1) = a := Nat.mul_div_cancel _ (Nat.pow_pos (by omega))
    have hnh : n ≤ h := rf_le (hp _ hv0)
    have hPn : ∀ k, ∃ v, v ≤ 20 * h ∧ P k = nI v := rf_nI hK (hp _ hv0)
    obtain ⟨u, hu, eu⟩ := kp_nI hK h
    obtain ⟨ro, hro, ero⟩ := rng_nI (a := kroof w) (M := 99) (n := 99) rfl ⟨by have := hK.2.2.2.1; grind, hK.2.2.2.2⟩
    have edg : ∀ v, dg (kn w) v h = v / 6 ^ m % 6 := by intro v; unfold dg; rw [show kn w - 1 - h = m by omega]
    show Wo (fX5_coverFrom_b _ _ _ _ _ _ _) _
    unfold fX5_coverFrom_b
    rw [hQ.2.1, if_neg (by rw [nI_leI (by omega) (by omega)]; omega), if_pos (by simp (disch := omega) only [L_add, L_add2, L_mul, L_mul2, L_sub, nI_add, pk_mul, pk_sub, L_le, L_le2, L_lt, L_lt2, L_eq, L_eq2, nI_leI, nI_ltI, nI_eq, nI_clamp, ix_nI, ix_lit, L_cl]; omega), get_p hS (by omega), b1_some]
    refine lp0 (fun n' y s => fX5_coverFrom_l27 (fX5_coverFrom f) 24 17 (nI h) (nI n) (nI r) (kp w h) n' y s) (min (n + 1) r) (by omega) (fun k s => Fz μ s ∧ (∀ i, i < h → s.1 181 i = μ.1 181 i) ∧ (∀ k, k < 6 → s.1 182 k = P k) ∧ ∀ k', k' < k → NGw w m (a * 6 + k') r) _ μ ⟨Fz_rfl, fun _ _ => rfl, h182, fun k' hk => by omega⟩ ?_ ?_
    · rintro n' k s hk ⟨i1, i2, i3, i4⟩ hrec
      have hQ1 := QC_KC hQ (Fz_KC i1)
      obtain ⟨v, hv, ev⟩ := hPn k
      have step : ∀ v, v / 6 ^ m = a * 6 + k → rf w (dg (kn w) v) (h + 1) = if P k + kp w h ≤ kroof w then some (max n (k + 1), upd P k (P k + kp w h)) else none := by
        intro v hv
        obtain ⟨g1, g2⟩ := suf_div hv (by omega)
        rw [rf_s (hp v g1), edg, g2]
        by_cases hc : P k + kp w h ≤ kroof w
        · rw [if_pos ⟨by omega, hc⟩, if_pos hc]
          by_cases he : k = n
          · rw [if_pos he, he, show max n (n + 1) = n + 1 by omega]
          · rw [if_neg he, show max n (k + 1) = n by omega]
        · rw [if_neg (fun hx => hc hx.2), if_neg hc]
      show Wo (fX5_coverFrom_s27 _ _ _ _ _ _ _ _ _ _) _
      unfold fX5_coverFrom_s27
      rw [if_neg (by rw [nI_ltI (by omega) (by omega)]; omega), if_neg (by rw [nI_leI (by omega) (by omega)]; omega), if_neg (by simp (disch := omega) only [L_add, L_add2, L_mul, L_mul2, L_sub, nI_add, pk_mul, pk_sub, L_le, L_le2, L_lt, L_lt2, L_eq, L_eq2, nI_leI, nI_ltI, nI_eq, nI_clamp, ix_nI, ix_lit, L_cl]; omega), ix_nI (by omega) (by omega), gd_true, nI_clamp (by omega), hQ1.2.2.1, i3 k (by omega), nI_1]
      refine Wo_if (fun hc => ?_) (fun hc => ?_)
      · refine hrec s ⟨i1, i2, i3, fun k' hk' => ?_⟩
        by_cases he : k' = k
        · subst he
          intro v hv hx
          have e := step v hv
          rw [if_neg (by grind)] at e
          rw [nb_none (by omega) e] at hx
          omega
        · exact i4 k' (by omega)
      · have hc2 : P k + kp w h ≤ kroof w := by grind
        have ej : jmax (nI n) (nI (k + 1)) = nI (max n (k + 1)) := by
          unfold jmax
          by_cases hx : n < k + 1
          · rw [if_pos (by rw [nI_ltI (by omega) (by omega)]; exact hx), show max n (k + 1) = k + 1 by omega]
          · rw [if_neg (by rw [nI_ltI (by omega) (by omega)]; exact hx), show max n (k + 1) = n by omega]
        rw [ix_nI (by omega) (by omega), gd_true, bd_eq, gd_true, gd_true, bd_eq, nI_clamp (by omega), rd_Ii (by omega), i3 k (by omega), nI_1, ej, Wo_b2]
        have f9 : Fz μ (upI (upI s 181 h (nI k)) 182 k (P k + kp w h)) := Fz_tr i1 (Fz_tr (Fz_up (by omega)) (Fz_up (by omega)))
        refine Wo_mono (ih (f := f) (h := h + 1) (n := max n (k + 1)) (r := r) (a := a * 6 + k) (P := upd P k (P k + kp w h)) (by omega) (by omega) (by omega) hr (QC_KC hQ (Fz_KC f9)) (SR_fr hS (f9.1 24 (by omega)) (f9.1 25 (by omega))) (fun v hv => by rw [step v hv, if_pos hc2]) ?_) ?_
        · intro k' hk'
          by_cases he : k' = k
          · subst he; rw [rd_Is, pk_us]
          · rw [rd_Ik he, pk_un he, rd_Ii (by omega)]; exact i3 k' hk'
        · rintro ⟨rr, s2⟩ ⟨j1, j2, j3⟩
          dsimp only at j1 j2 j3 ⊢
          have g181 : ∀ i, i < h → s2.1 181 i = μ.1 181 i := fun i hi => by rw [j2 i (by omega), rd_Ii (by omega), rd_Ik (by omega)]; exact i2 i hi
          rcases j3 with ⟨l1, W, ⟨w1, w2, w3⟩, l3⟩ | ⟨l1, l2, l3⟩
          · rw [l1, if_neg n10, Wo_some]
            refine ⟨Fz_tr f9 j1, g181, Or.inl ⟨rfl, W, ⟨(suf_div w1 (by omega)).1, w2, ?_⟩, ?_⟩⟩
            · intro v hv h1
              obtain ⟨p1, p2⟩ := pre_div h1
              have hle : v / 6 ^ m ≤ W / 6 ^ m := Nat.div_le_div_right (Nat.le_of_lt hv)
              by_cases he : v / 6 ^ m % 6 = k
              · exact w3 v hv (by omega)
              · exact i4 (v / 6 ^ m % 6) (by omega) v (by omega)
            · intro i hi1 hi2
              by_cases he : i = h
              · subst he
                rw [j2 i (by omega), rd_Ii (by omega), rd_Is, edg, (suf_div w1 (by omega)).2]
              · exact l3 i (by omega) hi2
          · rw [l1, if_pos rfl, gd_true, gd_true, bd_eq, l3 k (by omega), pk_us]
            refine hrec _ ⟨Fz_tr f9 (Fz_tr j1 (Fz_up (by omega))), fun i hi => by rw [rd_Ii (by omega)]; exact g181 i hi, fun k' hk' => ?_, fun k' hk' => ?_⟩
            · by_cases he : k' = k
              · subst he; rw [rd_Is]; grind
              · rw [rd_Ik he, l3 k' hk', pk_un he]
            · by_cases he : k' = k
              · subst he; exact l2
              · exact i4 k' (by omega)
    · rintro n' s ⟨i1, i2, i3, i4⟩
      have hx : Wo (fX5_coverFrom_s27 (fX5_coverFrom f) (fX5_coverFrom_l27 (fX5_coverFrom f) 24 17 (nI h) (nI n) (nI r) (kp w h) n') 24 17 (nI h) (nI n) (nI r) (kp w h) (nI (min (n + 1) r)) s) (fun p => p = (0, s)) := by
        unfold fX5_coverFrom_s27
        by_cases hc : n + 1 ≤ r
        · rw [show min (n + 1) r = n + 1 by omega, if_pos (by rw [nI_ltI (by omega) (by omega)]; omega), Wo_some]
        · rw [show min (n + 1) r = r by omega, if_neg (by rw [nI_ltI (by omega) (by omega)]; omega), if_pos (by rw [nI_leI (by omega) (by omega)]; omega), Wo_some]
      refine Wo_mono hx ?_
      rintro p rfl
      refine ⟨i1, i2, Or.inr ⟨rfl, ?_, i3⟩⟩
      intro v hv hgood
      obtain ⟨p1, p2⟩ := pre_div hv
      by_cases he : v / 6 ^ m % 6 < min (n + 1) r
      · exact i4 _ he v p1 hgood
      · have e := rf_s (hp v hv)
        rw [edg] at e
        by_cases hle : v / 6 ^ m % 6 ≤ n ∧ P (v / 6 ^ m % 6) + kp w h ≤ kroof w
        · rw [if_pos hle] at e
          have hk1 : v / 6 ^ m % 6 = n := by omega
          rw [if_pos hk1] at e
          unfold nb at hgood
          cases e2 : rf w (dg (kn w) v) (kn w) with
          | none => rw [e2] at hgood; dsimp only at hgood; omega
          | some t =>
            rw [e2] at hgood
            have := rf_mono e (by omega) e2
            dsimp only at hgood
            omega
        · rw [if_neg hle] at e
          rw [nb_none (by omega) e] at hgood
          omega
