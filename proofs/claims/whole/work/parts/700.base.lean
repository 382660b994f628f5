def Wo {α : Type} (o : Option α) (Q : α → Prop) : Prop := ∃ a, o = some a ∧ Q a
theorem Wo_some {α : Type} {a : α} {Q : α → Prop} : Wo (some a) Q ↔ Q a := ⟨fun ⟨_, h, hq⟩ => by cases h; exact hq, fun h => ⟨a, rfl, h⟩⟩
theorem b1_some {α γ : Type} (a : α) (k : α → Option γ) : b1 (some a) k = k a := rfl
theorem b2_some {α β γ : Type} (a : α) (b : β) (k : α → β → Option γ) : b2 (some (a, b)) k = k a b := rfl
theorem gd_true {α : Type} (k : Option α) : gd true k = k := rfl
theorem bd_eq {α β : Type} (a : α) (f : α → β) : bd a f = f a := rfl
theorem Wo_bd {α β : Type} {a : α} {f : α → Option β} {Q : β → Prop} : Wo (bd a f) Q ↔ Wo (f a) Q := Iff.rfl
theorem Wo_b1 {α γ : Type} {o : Option α} {k : α → Option γ} {Q : γ → Prop} : Wo (b1 o k) Q ↔ Wo o (fun a => Wo (k a) Q) := by
  cases o with
  | none => simp [Wo, b1]
  | some a => rw [Wo_some]; rfl
theorem Wo_b2 {α β γ : Type} {o : Option (α × β)} {k : α → β → Option γ} {Q : γ → Prop} : Wo (b2 o k) Q ↔ Wo o (fun p => Wo (k p.1 p.2) Q) := by
  cases o with
  | none => simp [Wo, b2]
  | some a => rw [Wo_some]; rfl
theorem Wo_gd {α : Type} {c : Bool} {o : Option α} {Q : α → Prop} : Wo (gd c o) Q ↔ c = true ∧ Wo o Q := by
  cases c with
  | false => simp [Wo, gd]
  | true => simp [gd]
theorem Wo_mono {α : Type} {o : Option α} {Q R : α → Prop} (h : Wo o Q) (h2 : ∀ a, Q a → R a) : Wo o R := by
  obtain ⟨a, h, hq⟩ := h
  exact ⟨a, h, h2 a hq⟩
theorem Wo_if {α : Type} {c : Prop} [Decidable c] {a b : Option α} {Q : α → Prop} (h1 : c → Wo a Q) (h2 : ¬c → Wo b Q) : Wo (if c then a else b) Q := by
  split
  · exact h1 (by assumption)
  · exact h2 (by assumption)
theorem Wo_and {α : Type} {o : Option α} {Q R : α → Prop} (h : Wo o Q) (h2 : Wo o R) : Wo o (fun a => Q a ∧ R a) := by
  obtain ⟨a, h, hq⟩ := h
  obtain ⟨b, h', hr⟩ := h2
  rw [h] at h'
  cases h'
  exact ⟨a, h, hq, hr⟩
theorem lit_nI (c : Nat) : (no_index (OfNat.ofNat c) : Int32) = nI (OfNat.ofNat c) := rfl
theorem L_add (i c : Nat) : nI i + (no_index (OfNat.ofNat c) : Int32) = nI (i + OfNat.ofNat c) := nI_add i c
theorem L_add2 (i c : Nat) : (no_index (OfNat.ofNat c) : Int32) + nI i = nI (OfNat.ofNat c + i) := nI_add c i
theorem L_mul (i c : Nat) : nI i * (no_index (OfNat.ofNat c) : Int32) = nI (i * OfNat.ofNat c) := pk_mul i c
theorem L_mul2 (i c : Nat) : (no_index (OfNat.ofNat c) : Int32) * nI i = nI (OfNat.ofNat c * i) := pk_mul c i
theorem L_sub {i c : Nat} (h : (OfNat.ofNat c : Nat) ≤ i) : nI i - (no_index (OfNat.ofNat c) : Int32) = nI (i - OfNat.ofNat c) := pk_sub h
theorem L_le {c i : Nat} (hc : (OfNat.ofNat c : Nat) < 2 ^ 31) (hi : i < 2 ^ 31) : (no_index (OfNat.ofNat c) : Int32) ≤ nI i ↔ OfNat.ofNat c ≤ i := nI_leI hc hi
theorem L_le2 {c i : Nat} (hc : (OfNat.ofNat c : Nat) < 2 ^ 31) (hi : i < 2 ^ 31) : nI i ≤ (no_index (OfNat.ofNat c) : Int32) ↔ i ≤ OfNat.ofNat c := nI_leI hi hc
theorem L_lt {c i : Nat} (hc : (OfNat.ofNat c : Nat) < 2 ^ 31) (hi : i < 2 ^ 31) : (no_index (OfNat.ofNat c) : Int32) < nI i ↔ OfNat.ofNat c < i := nI_ltI hc hi
theorem L_lt2 {c i : Nat} (hc : (OfNat.ofNat c : Nat) < 2 ^ 31) (hi : i < 2 ^ 31) : nI i < (no_index (OfNat.ofNat c) : Int32) ↔ i < OfNat.ofNat c := nI_ltI hi hc
theorem L_eq {c i : Nat} (hc : (OfNat.ofNat c : Nat) < 2 ^ 31) (hi : i < 2 ^ 31) : (no_index (OfNat.ofNat c) : Int32) = nI i ↔ OfNat.ofNat c = i := nI_eq hc hi
theorem L_eq2 {c i : Nat} (hc : (OfNat.ofNat c : Nat) < 2 ^ 31) (hi : i < 2 ^ 31) : nI i = (no_index (OfNat.ofNat c) : Int32) ↔ i = OfNat.ofNat c := nI_eq hi hc
theorem L_cl {c : Nat} (hc : (OfNat.ofNat c : Nat) < 2 ^ 31) : (no_index (OfNat.ofNat c) : Int32).toNatClampNeg = OfNat.ofNat c := nI_clamp hc
theorem ix_nI {i n : Nat} (h : i < n) (hn : n ≤ 2 ^ 31) : ix (nI i) n = true := by
  unfold ix
  rw [nI_clamp (by omega)]
  simp only [nI_pos' (show i < 2 ^ 31 by omega), h, decide_true, Bool.and_self]
theorem ix_lit {i n : Nat} (h : (OfNat.ofNat i : Nat) < n) (hn : n ≤ 2 ^ 31) : ix (no_index (OfNat.ofNat i) : Int32) n = true := ix_nI h hn
theorem dz_nI {n : Nat} (h : 0 < n) (hn : n < 2 ^ 31) : dz (nI n) = true := by
  unfold dz
  simp only [nI_ne0 h hn, not_false_eq_true, decide_true]
theorem rd_I2 {μ : Mem} {j k : Nat} {v : Int32} : (upI μ j k v).2 = μ.2 := rfl
theorem rd_Is {μ : Mem} {j k : Nat} {v : Int32} : (upI μ j k v).1 j k = v := by rw [show (upI μ j k v).1 j = upd (μ.1 j) k v from upA_eq]; exact pk_us
theorem rd_Ii {μ : Mem} {j k i : Nat} {v : Int32} (h : i ≠ j) : (upI μ j k v).1 i = μ.1 i := (upI_ne h).1
theorem rd_Ik {μ : Mem} {j k m : Nat} {v : Int32} (h : m ≠ k) : (upI μ j k v).1 j m = μ.1 j m := by rw [show (upI μ j k v).1 j = upd (μ.1 j) k v from upA_eq]; exact pk_un h
theorem rd_If {μ : Mem} {j k : Nat} {v : Int32} : (upI μ j k v).1 j = upd (μ.1 j) k v := upA_eq
/-- a loop that counts up -/
theorem lpU {σ α : Type} (f : Nat → Int32 → σ → Option α) (e : Nat) (I : Nat → σ → Prop) (Q : α → Prop) (hs : ∀ n i s, i < e → I i s → (∀ s', I (i + 1) s' → Wo (f n (nI (i + 1)) s') Q) → Wo (f (n + 1) (nI i) s) Q) (hx : ∀ n s, I e s → Wo (f (n + 1) (nI e) s) Q) : ∀ (n i : Nat) (s : σ), i ≤ e → e - i < n → I i s → Wo (f n (nI i) s) Q := by
  intro n
  induction n with
  | zero => intro i s _ h _; omega
  | succ n ih =>
    intro i s hi hn hI
    by_cases he : i = e
    · subst he; exact hx n s hI
    · exact hs n i s (by omega) hI (fun s' h' => ih (i + 1) s' (by omega) (by omega) h')
/-- the same from 0 with the fuel that the functions have -/
theorem lp0 {σ α : Type} (f : Nat → Int32 → σ → Option α) (e : Nat) (he : e < 100000) (I : Nat → σ → Prop) (Q : α → Prop) (s : σ) (h0 : I 0 s) (hs : ∀ n i s, i < e → I i s → (∀ s', I (i + 1) s' → Wo (f n (nI (i + 1)) s') Q) → Wo (f (n + 1) (nI i) s) Q) (hx : ∀ n s, I e s → Wo (f (n + 1) (nI e) s) Q) : Wo (f FU 0 s) Q := lpU f e I Q hs hx FU 0 s (Nat.zero_le _) (by unfold FU; omega) h0
def cl (lo hi v : Int32) : Int32 := if v < lo then lo else if hi < v then hi else v
theorem cl_cls {a v : Int32} (h : 0 ≤ a) : jmax 0 (jmin a v) = cl 0 a v := by unfold jmax jmin cl; grind
theorem cl_within {v a b : Int32} : fX12_within v a b = some (cl a b v) := by unfold fX12_within cl; grind
theorem cl_rng {a v : Int32} (h : 0 ≤ a) : 0 ≤ cl 0 a v ∧ cl 0 a v ≤ a := by unfold cl; grind
