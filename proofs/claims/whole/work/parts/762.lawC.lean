def exB {α β : Type} (r : Except (Nat × Nat) α) (f : α → Except (Nat × Nat) β) : Except (Nat × Nat) β := match r with
  | .error x => .error x
  | .ok a => f a
def pTk (tk : Nat → Nat) (k t : Nat) : Except (Nat × Nat) Nat := if tk t = k then (if t < 400 then .ok (t + 1) else .error (2, t)) else .error (1, t)
def pBr (tk : Nat → Nat) (tv : Nat → Int32) (t : Nat) : Except (Nat × Nat) ((Cd × Cd × Cd) × Nat) :=
  exB (pTk tk 29 t) (fun t => exB (pE tk tv t) (fun q1 => exB (pTk tk 13 q1.2) (fun t => exB (pE tk tv t) (fun q2 => exB (pTk tk 30 q2.2) (fun t => exB (pE tk tv t) (fun q3 => exB (pTk tk 31 q3.2) (fun t => .ok ((q1.1, q2.1, q3.1), t))))))))
def pIf (tk : Nat → Nat) (tv : Nat → Int32) : Nat → Nat → Bs → Except (Nat × Nat) (Bs × Nat)
  | 0, t, bs => if tk t = 29 then .error (2, t) else .ok (bs, t)
  | r + 1, t, bs => if tk t = 29 then exB (pBr tk tv t) (fun q => pIf tk tv r q.2 (bs ++ [q.1])) else .ok (bs, t)
/-- a LAW from its '=' on -/
def pLw (tk : Nat → Nat) (tv : Nat → Int32) (t : Nat) : Except (Nat × Nat) ((Bs × Cd) × Nat) :=
  exB (pTk tk 5 t) (fun t => exB (pIf tk tv 4 t []) (fun q => exB (pE tk tv q.2) (fun q2 => exB (pTk tk 4 q2.2) (fun t => .ok ((q.1, q2.1), t)))))
theorem exB_ok {α β : Type} {a : α} {f : α → Except (Nat × Nat) β} : exB (.ok a) f = f a := rfl
theorem exB_er {α β : Type} {x : Nat × Nat} {f : α → Except (Nat × Nat) β} : exB (.error x) f = .error x := rfl
theorem pTk_t {tk : Nat → Nat} {k t : Nat} (h : tk t = k) (h4 : t < 400) : pTk tk k t = .ok (t + 1) := by unfold pTk; rw [if_pos h, if_pos h4]
theorem pTk_2 {tk : Nat → Nat} {k t : Nat} (h : tk t = k) (h4 : ¬ t < 400) : pTk tk k t = .error (2, t) := by unfold pTk; rw [if_pos h, if_neg h4]
theorem pTk_1 {tk : Nat → Nat} {k t : Nat} (h : ¬ tk t = k) : pTk tk k t = .error (1, t) := by unfold pTk; rw [if_neg h]
/-- the class takes a token, and goes on -/
theorem tkC {tk : Nat → Nat} {tv : Nat → Int32} {tn : Nat → Int64} {pl : Nat → Int32} {e : Nat} {t k : Nat} {μ : Mem} {F : Int32 → Mem → Option (Int32 × Mem)} {Q : Int32 × Mem → Prop} (hT : TE tk e) (hK : TKc tk tv tn pl e μ) (h2 : μ.1 3 2 = nI t) (ht : t ≤ e) (hk : k < 41) (hk0 : k ≠ 0) (hk3 : k ≠ 3) (herr : ∀ x, (x = 1 ∨ x = 2) → pTk tk k t = .error (x, t) → Wo (F 0 (upI (upI μ 3 3 (nI x)) 3 4 (pl t))) Q) (hok : pTk tk k t = .ok (t + 1) → tk t = k → t < 400 → t + 1 ≤ e → Wo (F 1 (upI μ 3 2 (nI (t + 1)))) Q) : Wo (b2 (fX4_take (nI (cK k)) μ) F) Q := by
  by_cases h : tk t = k
  · by_cases h4 : t < 400
    · rw [take_ok hT hK h2 ht h h4, b2_some]
      exact hok (pTk_t h h4) h h4 (TE_nx hT ht h4 (by omega) (by omega))
    · rw [take_2 hT hK h2 ht h h4, b2_some]
      exact herr 2 (Or.inr rfl) (pTk_2 h h4)
  · rw [take_1 hT hK h2 ht hk h, b2_some]
    exact herr 1 (Or.inl rfl) (pTk_1 h)
/-- the class reads an E, and goes on -/
theorem exC {tk : Nat → Nat} {tv : Nat → Int32} {tn : Nat → Int64} {pl : Nat → Int32} {e : Nat} {t sz : Nat} {μ : Mem} {F : Int32 → Mem → Option (Int32 × Mem)} {Q : Int32 × Mem → Prop} (hT : TE tk e) (hK : TKc tk tv tn pl e μ) (h2 : μ.1 3 2 = nI t) (ht : t ≤ e) (h4 : μ.1 11 4 = nI sz) (hs : sz ≤ t + 15) (herr : ∀ x t' μ', (x = 1 ∨ x = 2) → t ≤ t' → pE tk tv t = .error (x, t') → μ'.1 3 3 = nI x → μ'.1 3 4 = pl t' → FXc μ μ' → Wo (F 0 μ') Q) (hok : ∀ c t' μ', pE tk tv t = .ok (c, t') → OKc μ sz c t' μ' → t < t' → t' ≤ e → EX 15 c → c.length ≤ t' - t → Wo (F 1 μ') Q) : Wo (b2 (fX4_sum 8 0 μ) F) Q := by
  rw [Wo_b2]
  refine Wo_mono (expr_c (tv := tv) (tn := tn) hT μ t sz h2 ht hK h4 hs) ?_
  rintro ⟨r, s⟩ hr
  have hp := pE_ok (tv := tv) hT ht
  cases es : pE tk tv t with
  | error x =>
    obtain ⟨k, t'⟩ := x
    rw [es] at hr hp
    obtain ⟨r1, r2, r3, r4⟩ := hr
    dsimp only at r1 r2 r3 r4 ⊢
    rw [r1]
    exact herr k t' s hp.1 hp.2.1 es r2 r3 r4
  | ok q =>
    obtain ⟨c, t'⟩ := q
    rw [es] at hr hp
    obtain ⟨r1, r2⟩ := hr
    dsimp only at r1 r2 ⊢
    rw [r1]
    exact hok c t' s es r2 hp.1 hp.2.1 hp.2.2.1 hp.2.2.2
theorem SegC_l {μ : Mem} {q i : Nat} {c1 c2 : Cd} (h : SegC μ q i (c1 ++ c2)) : SegC μ q i c1 := by
  intro k p hp
  exact h k p (by rw [List.getElem?_append_left (len_of hp)]; exact hp)
theorem SegC_r {μ : Mem} {q i : Nat} {c1 c2 : Cd} (h : SegC μ q i (c1 ++ c2)) : SegC μ q (i + c1.length) c2 := by
  intro k p hp
  have := h (c1.length + k) p (by rw [List.getElem?_append_right (by omega), show c1.length + k - c1.length = k by omega]; exact hp)
  rw [show i + c1.length + k = i + (c1.length + k) by omega]
  exact this
/-- the code of a branch: 6 stands for UNLESS_LESS, 7 for ANSWER -/
def brL (c1 c2 c3 : Cd) : Cd := c1 ++ c2 ++ [(6, 0)] ++ c3 ++ [(7, 0)]
theorem brL_len (c1 c2 c3 : Cd) : (brL c1 c2 c3).length = c1.length + c2.length + c3.length + 2 := by
  unfold brL
  rw [List.length_append, List.length_append, List.length_append, List.length_append, List.length_cons, List.length_nil, List.length_cons, List.length_nil]; omega
theorem brL_Pre {μ : Mem} {sz : Nat} {c1 c2 c3 : Cd} (h : SegC μ 11 sz (brL c1 c2 c3)) (ha : μ.1 13 (sz + c1.length + c2.length) = nI (sz + c1.length + c2.length + c3.length + 2)) : PreC μ 11 [(c1, c2, c3)] sz (sz + c1.length + c2.length + c3.length + 2) := by
  have s1 := SegC_l h
  have s2 := SegC_r h
  have s3 := SegC_l s1
  have s4 := SegC_r s1
  have s5 := SegC_l s3
  have s6 := SegC_r s3
  rw [List.length_append, List.length_append, List.length_cons, List.length_nil] at s4
  rw [List.length_append, List.length_append, List.length_append, List.length_cons, List.length_nil] at s2
  rw [List.length_append] at s6
  have u := (s6 0 (6, 0) rfl).1
  have a := (s2 0 (7, 0) rfl).1
  rw [Nat.add_zero] at u a
  refine ⟨SegC_l s5, SegC_r s5, ?_, ha, ?_, ?_, rfl⟩
  · rw [show sz + c1.length + c2.length = sz + (c1.length + c2.length) by omega]; exact u
  · rw [show sz + c1.length + c2.length + 1 = sz + (c1.length + c2.length + (0 + 1)) by omega]; exact s4
  · rw [show sz + c1.length + c2.length + 1 + c3.length = sz + (c1.length + c2.length + (0 + 1) + c3.length) by omega]; exact a
theorem OKc_base {μ0 μ μ' : Mem} {sz t : Nat} {c : Cd} (h : OKc μ sz c t μ') (h1 : ∀ k, k ≠ 2 → μ.1 3 k = μ0.1 3 k) (h2 : ∀ i, i < sz → μ.1 12 i = μ0.1 12 i ∧ μ.1 13 i = μ0.1 13 i) (h3 : FXc μ0 μ) : OKc μ0 sz c t μ' := by
  obtain ⟨a1, a2, a3, a4, a5, a6⟩ := h
  exact ⟨a1, fun k hk => (a2 k hk).trans (h1 k hk), a3, a4, fun i hi => ⟨((a5 i hi).1).trans (h2 i hi).1, ((a5 i hi).2).trans (h2 i hi).2⟩, FXc_tr h3 a6⟩
/-- one 'if' of a law -/
theorem brn_c {tk : Nat → Nat} {tv : Nat → Int32} {tn : Nat → Int64} {pl : Nat → Int32} {e : Nat} {t sz : Nat} {μ : Mem} {R : Mem → Option (Int32 × Mem)} {Q : Int32 × Mem → Prop} (hT : TE tk e) (hK : TKc tk tv tn pl e μ) (h2 : μ.1 3 2 = nI t) (ht : t ≤ e) (h4 : μ.1 11 4 = nI sz) (hs : sz ≤ t + 10) (herr : ∀ x t' μ', (x = 1 ∨ x = 2) → pBr tk tv t = .error (x, t') → μ'.1 3 3 = nI x → μ'.1 3 4 = pl t' → FXc μ μ' → Q (0, μ')) (hok : ∀ c1 c2 c3 t' μ', pBr tk tv t = .ok ((c1, c2, c3), t') → t < t' → t' ≤ e → c1.length + c2.length + c3.length + 4 ≤ t' - t → EX 15 c1 ∧ EX 15 c2 ∧ EX 15 c3 → OKc μ sz (brL c1 c2 c3) t' μ' → μ'.1 13 (sz + c1.length + c2.length) = nI (sz + c1.length + c2.length + c3.length + 2) → Wo (R μ') Q) : Wo (b2 (fX4_take 9 μ) (fun r9 μ8 => (if r9 = 0 then some (0, μ8) else b2 (fX4_sum 8 0 μ8) (fun r12 μ11 => (if r12 = 0 then some (0, μ11) else b2 (fX4_take 60 μ11) (fun r15 μ14 => (if r15 = 0 then some (0, μ14) else b2 (fX4_sum 8 0 μ14) (fun r18 μ17 => (if r18 = 0 then some (0, μ17) else b2 (fX4_take 10 μ17) (fun r21 μ20 => (if r21 = 0 then some (0, μ20) else bd (μ20.1 11 4) (fun y22 => b1 (fX1_append 11 14 0 μ20) (fun μ25 => b2 (fX4_sum 8 0 μ25) (fun r28 μ27 => (if r28 = 0 then some (0, μ27) else b2 (fX4_take 11 μ27) (fun r31 μ30 => (if r31 = 0 then some (0, μ30) else b1 (fX1_append 11 15 0 μ30) (fun μ33 => b1 (fX1_aimHere 11 y22 μ33) (fun μ35 => R μ35))))))))))))))))))) Q := by
  have h400 := hT.1
  have E : ∀ {μ' : Mem} {x t' : Nat}, (x = 1 ∨ x = 2) → pBr tk tv t = .error (x, t') → FXc μ μ' → Q (0, upI (upI μ' 3 3 (nI x)) 3 4 (pl t')) := fun hx hp hf => herr _ _ _ hx hp (by rw [rd_Ik (by omega), rd_Is]) rd_Is (FXc_tr hf (FXc_tr FXc_2 FXc_2))
  have o0 := OKc_nil h2 h4
  rw [show (9 : Int32) = nI (cK 29) from rfl]
  refine tkC hT hK h2 ht (by omega) (by omega) (by omega) (fun x hx hp => ?_) (fun p1 k1 k2 k3 => ?_)
  · rw [if_pos rfl, Wo_some]; exact E hx (by unfold pBr; rw [hp]; rfl) FXc_rfl
  · rw [if_neg n10]
    have o1 := OKc_at (t' := t + 1) o0
    refine exC (tv := tv) hT (TKc_FX hK o1.2.2.2.2.2) o1.1 k3 o1.2.2.1 (by rw [List.length_nil]; omega) (fun x t' μ' hx _ hp a1 a2 a3 => ?_) (fun c1 t1 μ1 p2 o2 l1 l2 e1 l3 => ?_)
    · rw [if_pos rfl, Wo_some]; exact herr x t' μ' hx (by unfold pBr; rw [p1, exB_ok, hp]; rfl) a1 a2 (FXc_tr o1.2.2.2.2.2 a3)
    · rw [if_neg n10, show (60 : Int32) = nI (cK 13) from rfl]
      have o3 := OKc_join o1 o2
      rw [List.nil_append] at o3
      refine tkC hT (TKc_FX hK o3.2.2.2.2.2) o3.1 l2 (by omega) (by omega) (by omega) (fun x hx hp => ?_) (fun p3 _ _ m3 => ?_)
      · rw [if_pos rfl, Wo_some]; exact E hx (by unfold pBr; rw [p1, exB_ok, p2, exB_ok, hp]; rfl) o3.2.2.2.2.2
      · rw [if_neg n10]
        have o4 := OKc_at (t' := t1 + 1) o3
        refine exC (tv := tv) hT (TKc_FX hK o4.2.2.2.2.2) o4.1 m3 o4.2.2.1 (by omega) (fun x t' μ' hx _ hp a1 a2 a3 => ?_) (fun c2 t2 μ2 p4 o5 l4 l5 e2 l6 => ?_)
        · rw [if_pos rfl, Wo_some]; exact herr x t' μ' hx (by unfold pBr; rw [p1, exB_ok, p2, exB_ok, p3, exB_ok, hp]; rfl) a1 a2 (FXc_tr o4.2.2.2.2.2 a3)
        · rw [if_neg n10, show (10 : Int32) = nI (cK 30) from rfl]
          have o6 := OKc_join o4 o5
          refine tkC hT (TKc_FX hK o6.2.2.2.2.2) o6.1 l5 (by omega) (by omega) (by omega) (fun x hx hp => ?_) (fun p5 _ _ m5 => ?_)
          · rw [if_pos rfl, Wo_some]; exact E hx (by unfold pBr; rw [p1, exB_ok, p2, exB_ok, p3, exB_ok, p4, exB_ok, hp]; rfl) o6.2.2.2.2.2
          · rw [if_neg n10]
            have o7 := OKc_at (t' := t2 + 1) o6
            have hl2 : (c1 ++ c2).length = c1.length + c2.length := List.length_append
            rw [bd_eq, append_c o7.2.2.1 (by omega), b1_some, o7.2.2.1]
            have o8 := OKc_app (p := (6, 0)) (x := 14) (y := 0) o7 rfl (fun h => by cases h)
            have hl3 : (c1 ++ c2 ++ [((6 : Nat), (0 : Int32))]).length = c1.length + c2.length + 1 := by rw [List.length_append, hl2]; rfl
            refine exC (tv := tv) hT (TKc_FX hK o8.2.2.2.2.2) o8.1 m5 o8.2.2.1 (by omega) (fun x t' μ' hx _ hp a1 a2 a3 => ?_) (fun c3 t3 μ3 p6 o9 l7 l8 e3 l9 => ?_)
            · rw [if_pos rfl, Wo_some]; exact herr x t' μ' hx (by unfold pBr; rw [p1, exB_ok, p2, exB_ok, p3, exB_ok, p4, exB_ok, p5, exB_ok, hp]; rfl) a1 a2 (FXc_tr o8.2.2.2.2.2 a3)
            · rw [if_neg n10, show (11 : Int32) = nI (cK 31) from rfl]
              have o10 := OKc_join o8 o9
              have hl4 : (c1 ++ c2 ++ [((6 : Nat), (0 : Int32))] ++ c3).length = c1.length + c2.length + 1 + c3.length := by rw [List.length_append, hl3]
              refine tkC hT (TKc_FX hK o10.2.2.2.2.2) o10.1 l8 (by omega) (by omega) (by omega) (fun x hx hp => ?_) (fun p7 _ _ m7 => ?_)
              · rw [if_pos rfl, Wo_some]; exact E hx (by unfold pBr; rw [p1, exB_ok, p2, exB_ok, p3, exB_ok, p4, exB_ok, p5, exB_ok, p6, exB_ok, hp]; rfl) o10.2.2.2.2.2
              · rw [if_neg n10]
                have o11 := OKc_at (t' := t3 + 1) o10
                rw [append_c o11.2.2.1 (by omega), b1_some]
                have o12 := OKc_app (p := (7, 0)) (x := 15) (y := 0) o11 rfl (fun h => by cases h)
                have hl5 : (c1 ++ c2 ++ [((6 : Nat), (0 : Int32))] ++ c3 ++ [((7 : Nat), (0 : Int32))]).length = c1.length + c2.length + 1 + c3.length + 1 := by rw [List.length_append, hl4]; rfl
                generalize hμ4 : upI (upI (upI (upI μ3 3 2 (nI (t3 + 1))) (11 + 1) (sz + (c1 ++ c2 ++ [((6 : Nat), (0 : Int32))] ++ c3).length) 15) (11 + 2) (sz + (c1 ++ c2 ++ [((6 : Nat), (0 : Int32))] ++ c3).length) 0) 11 4 (nI (sz + (c1 ++ c2 ++ [((6 : Nat), (0 : Int32))] ++ c3).length + 1)) = μ4
                have o12' : OKc μ sz (brL c1 c2 c3) (t3 + 1) μ4 := by rw [← hμ4]; exact o12
                have es4 : μ4.1 11 4 = nI (sz + c1.length + c2.length + c3.length + 2) := by
                  rw [o12'.2.2.1, brL_len]
                  congr 1
                  omega
                unfold fX1_aimHere
                rw [hl2, if_neg (nI_pos (by omega)), es4, if_neg (by rw [nI_leI (by omega) (by omega)]; omega), ix_nI (by omega) (by omega), gd_true, bd_eq, nI_clamp (by omega), b1_some]
                refine hok c1 c2 c3 (t3 + 1) _ (by unfold pBr; rw [p1, exB_ok, p2, exB_ok, p3, exB_ok, p4, exB_ok, p5, exB_ok, p6, exB_ok, p7]; rfl) (by omega) m7 (by omega) ⟨e1, e2, e3⟩ ?_ ?_
                · obtain ⟨b1, b2, b3, b4, b5, b6⟩ := o12'
                  refine ⟨by rw [rd_Ii (by omega)]; exact b1, fun k hk => by rw [rd_Ii (by omega)]; exact b2 k hk, by rw [rd_Ii (by omega)]; exact b3, ?_, fun i hi => by rw [rd_Ii (by omega), rd_Ik (by omega)]; exact b5 i hi, FXc_tr b6 (FXc_12 (Or.inr rfl))⟩
                  intro k p hp
                  refine ⟨by rw [rd_Ii (by omega)]; exact (b4 k p hp).1, fun h0 => ?_⟩
                  by_cases hke : sz + k = sz + (c1.length + c2.length)
                  · exfalso
                    have hk : k = c1.length + c2.length := by omega
                    have e6 : (brL c1 c2 c3)[k]? = some (6, 0) := by
                      unfold brL
                      rw [List.append_assoc, List.append_assoc, List.getElem?_append_right (by rw [hl2]; omega), hl2, hk, Nat.sub_self]
                      rfl
                    rw [e6] at hp
                    cases hp
                    cases h0
                  · show (upI μ4 (11 + 2) (sz + (c1.length + c2.length)) (nI (sz + c1.length + c2.length + c3.length + 2))).1 (11 + 2) (sz + k) = _
                    rw [rd_Ik hke]
                    exact (b4 k p hp).2 h0
                · rw [show sz + c1.length + c2.length = sz + (c1.length + c2.length) by omega]
                  exact rd_Is
