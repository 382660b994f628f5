def CtR (pl : Nat → Int32) (ν0 : Mem) (e0 ub : Nat) (E : Cd) (W : List Int32) (op : Nat) (r : Rs) (Q : Mem → Prop) : Prop := match r with
  | .error (k, t') => ∀ ν', FMx pl ν0 e0 ub k t' ν' → Q ν'
  | .ok (c, t') => ∀ ν' n12 n96, EMx ν0 e0 ub (E ++ c) W t' op ν' → 401 < n12 + t' → 401 < n96 + t' → Wo (AAx n12 n96 ν') Q
def CtP (pl : Nat → Int32) (ν0 : Mem) (e0 ub : Nat) (tk : Nat → Nat) (E : Cd) (W : List Int32) (op : Nat) (r : Rs) (Q : Mem → Prop) : Prop := match r with
  | .error (k, t') => ∀ ν', FMx pl ν0 e0 ub k t' ν' → Q ν'
  | .ok (c, t') => ∀ p c' ν' n12 n96, c = c' ++ fls p → (∀ w ∈ p, w = 10 ∨ w = 15) → p.length ≤ 1 → EMx ν0 e0 ub (E ++ c') (p ++ W) t' op ν' → tk t' ≠ 10 → tk t' ≠ 15 → 401 < n12 + t' → 401 < n96 + t' → Wo (AAx n12 n96 ν') Q
def CtS (pl : Nat → Int32) (ν0 : Mem) (e0 ub : Nat) (tk : Nat → Nat) (E : Cd) (W : List Int32) (op : Nat) (r : Rs) (Q : Mem → Prop) : Prop := match r with
  | .error (k, t') => ∀ ν', FMx pl ν0 e0 ub k t' ν' → Q ν'
  | .ok (c, t') => ∀ p c' ν' n12 n96, c = c' ++ fls p → (∀ w ∈ p, w ≠ 6) → p.length ≤ 2 → EMx ν0 e0 ub (E ++ c') (p ++ W) t' op ν' → (tk t' ≠ 8 ∧ tk t' ≠ 9 ∧ tk t' ≠ 10 ∧ tk t' ≠ 15) → 401 < n12 + t' → 401 < n96 + t' → Wo (AAx n12 n96 ν') Q
def ULx (tk : Nat → Nat) (tv : Nat → Int32) (pl : Nat → Int32) (e : Nat) (ν0 : Mem) (e0 ub d : Nat) : Prop := ∀ {E : Cd} {W : List Int32} {t n12 n23 : Nat} {ν : Mem} {Q : Mem → Prop}, EMx ν0 e0 ub E W t (6 - d) ν → t ≤ e → e0 + E.length + W.length + 401 ≤ ub + t → W.length + 3 * d ≤ 20 → 401 < n12 + t → 401 < n23 + t → CtR pl ν0 e0 ub E W (6 - d) (pUn tk tv d t) Q → Wo (OOx n12 n23 ν) Q
theorem fls_len (p : List Int32) : (fls p).length = p.length := by unfold fls; exact List.length_map ..
theorem fls_app (p q : List Int32) : fls (p ++ q) = fls p ++ fls q := by unfold fls; exact List.map_append ..
theorem PLx {tk : Nat → Nat} {tv : Nat → Int32} {tn : Nat → Int64} {pl : Nat → Int32} {e : Nat} {ν0 : Mem} {e0 ub : Nat} (hT : TE tk e) (hK : TKm tk tv tn pl e ν0) (h8 : ub ≤ 840) {d : Nat} (hU : ULx tk tv pl e ν0 e0 ub d) {E : Cd} {W : List Int32} {Q : Mem → Prop} (hW : top_stops 1 W) (hl : W.length + 3 * d ≤ 19) {f : Nat} : ∀ {t n12 n96 : Nat} {c c' : Cd} {p : List Int32} {ν : Mem}, c = c' ++ fls p → (∀ w ∈ p, w = 10 ∨ w = 15) → p.length ≤ 1 → EMx ν0 e0 ub (E ++ c') (p ++ W) t (6 - d) ν → t ≤ e → e0 + E.length + c.length + W.length + 401 ≤ ub + t → 401 ≤ f + t → 401 < n12 + t → 401 < n96 + t → CtP pl ν0 e0 ub tk E W (6 - d) (lpP tk (pUn tk tv d) 10 15 4 5 f t c) Q → Wo (AAx n12 n96 ν) Q := by
  have h400 := hT.1
  induction f with
  | zero => intro t n12 n96 c c' p ν _ _ _ _ ht _ hf _ _ _; omega
  | succ f ih =>
    intro t n12 n96 c c' p ν hc hp hp1 hE ht hr hf h12 h96 hQ
    have hlc : c.length = c'.length + p.length := by rw [hc, List.length_append, fls_len]
    have hQ' : CtP pl ν0 e0 ub tk E W (6 - d) (if tk t = 10 ∨ tk t = 15 then (if t < 400 then (match pUn tk tv d (t + 1) with | .error x => .error x | .ok (c2, t2) => lpP tk (pUn tk tv d) 10 15 4 5 f t2 (c ++ c2 ++ [(if tk t = 10 then 4 else 5, 0)])) else .error (2, t)) else .ok (c, t)) Q := hQ
    by_cases hor : tk t = 10 ∨ tk t = 15
    · obtain ⟨n12, rfl⟩ : ∃ n', n12 = n' + 1 := ⟨n12 - 1, by omega⟩
      obtain ⟨n96, rfl⟩ : ∃ n', n96 = n' + 1 := ⟨n96 - 1, by omega⟩
      rw [if_pos hor] at hQ'
      refine A_op hT hK h8 (o := tk t) (x1 := 1) hE ht rfl (Or.inl ⟨hor, rfl⟩) (fun w hw => ?_) hW (by rw [List.length_append, List.length_append]; omega) (by rw [List.length_append]; omega) (fun h4 ν' hE' => ?_) (fun h4 ν' hF => ?_)
      · rcases hp w hw with rfl | rfl <;> rintro (hx | ⟨_, hx | hx⟩) <;> exact absurd hx (by decide)
      · rw [if_pos h4] at hQ'
        have hnx := TE_nx hT ht h4 (by omega) (by omega)
        rw [List.append_assoc, ← hc] at hE'
        have hpu := pUn_ok (tv := tv) (d := d) hT hnx
        refine hU hE' hnx (by rw [List.length_append, List.length_cons]; omega) (by rw [List.length_cons]; omega) (by omega) (by unfold FU; omega) ?_
        cases eu : pUn tk tv d (t + 1) with
        | error x => rw [eu] at hQ'; exact hQ'
        | ok q =>
          obtain ⟨c2, t2⟩ := q
          rw [eu] at hQ' hpu
          obtain ⟨u1, u2, u3, u4⟩ := hpu
          intro ν'' n12'' n96'' hE'' g12 g96
          dsimp only at hQ'
          refine ih (c := c ++ c2 ++ [(if tk t = 10 then 4 else 5, 0)]) (c' := c ++ c2) (p := [nI (tk t)]) ?_ (fun w hw => ?_) (Nat.le_refl _) (by rw [← List.append_assoc]; exact hE'') u2 (by rw [List.length_append, List.length_append, List.length_cons, List.length_nil]; omega) (by omega) g12 g96 hQ'
          · congr 1
            rcases hor with h | h <;> rw [h] <;> rfl
          · rw [List.mem_singleton] at hw
            subst hw
            rcases hor with h | h <;> rw [h]
            · exact Or.inl rfl
            · exact Or.inr rfl
      · rw [if_neg h4] at hQ'
        exact hQ' ν' hF
    · rw [if_neg hor] at hQ'
      exact hQ' p c' ν n12 n96 hc hp hp1 hE (fun h => hor (Or.inl h)) (fun h => hor (Or.inr h)) h12 h96
theorem PRx {tk : Nat → Nat} {tv : Nat → Int32} {tn : Nat → Int64} {pl : Nat → Int32} {e : Nat} {ν0 : Mem} {e0 ub : Nat} (hT : TE tk e) (hK : TKm tk tv tn pl e ν0) (h8 : ub ≤ 840) {d : Nat} (hU : ULx tk tv pl e ν0 e0 ub d) {E : Cd} {W : List Int32} {t n12 n23 : Nat} {ν : Mem} {Q : Mem → Prop} (hW : top_stops 1 W) (hl : W.length + 3 * d ≤ 19) (hE : EMx ν0 e0 ub E W t (6 - d) ν) (ht : t ≤ e) (hr : e0 + E.length + W.length + 401 ≤ ub + t) (h12 : 401 < n12 + t) (h23 : 401 < n23 + t) (hQ : CtP pl ν0 e0 ub tk E W (6 - d) (pPr tk (pUn tk tv d) t) Q) : Wo (OOx n12 n23 ν) Q := by
  have hpu := pUn_ok (tv := tv) (d := d) hT ht
  refine hU hE ht hr (by omega) h12 h23 ?_
  unfold pPr at hQ
  cases eu : pUn tk tv d t with
  | error x => rw [eu] at hQ; exact hQ
  | ok q =>
    obtain ⟨c, t1⟩ := q
    rw [eu] at hQ hpu
    obtain ⟨u1, u2, u3, u4⟩ := hpu
    intro ν' m12 m96 hE' g12 g96
    dsimp only at hQ
    exact PLx hT hK h8 hU hW hl (c := c) (c' := c) (p := []) (by rw [show fls [] = [] from rfl, List.append_nil]) (fun w hw => by simp at hw) (by simp) hE' u2 (by omega) (by omega) g12 g96 hQ
theorem SLx {tk : Nat → Nat} {tv : Nat → Int32} {tn : Nat → Int64} {pl : Nat → Int32} {e : Nat} {ν0 : Mem} {e0 ub : Nat} (hT : TE tk e) (hK : TKm tk tv tn pl e ν0) (h8 : ub ≤ 840) {d : Nat} (hU : ULx tk tv pl e ν0 e0 ub d) {E : Cd} {W : List Int32} {Q : Mem → Prop} (hW : top_stops 0 W) (hW1 : top_stops 1 W) (hl : W.length + 3 * d ≤ 18) {f : Nat} : ∀ {t n12 n96 : Nat} {c c' : Cd} {p : List Int32} {ν : Mem}, c = c' ++ fls p → (∀ w ∈ p, w ≠ 6) → p.length ≤ 2 → EMx ν0 e0 ub (E ++ c') (p ++ W) t (6 - d) ν → t ≤ e → tk t ≠ 10 → tk t ≠ 15 → e0 + E.length + c.length + W.length + 401 ≤ ub + t → 401 ≤ f + t → 401 < n12 + t → 401 < n96 + t → CtS pl ν0 e0 ub tk E W (6 - d) (lpP tk (pPr tk (pUn tk tv d)) 8 9 2 3 f t c) Q → Wo (AAx n12 n96 ν) Q := by
  have h400 := hT.1
  induction f with
  | zero => intro t n12 n96 c c' p ν _ _ _ _ ht _ _ _ hf _ _ _; omega
  | succ f ih =>
    intro t n12 n96 c c' p ν hc hp hp1 hE ht h10 h15 hr hf h12 h96 hQ
    have hlc : c.length = c'.length + p.length := by rw [hc, List.length_append, fls_len]
    have hQ' : CtS pl ν0 e0 ub tk E W (6 - d) (if tk t = 8 ∨ tk t = 9 then (if t < 400 then (match pPr tk (pUn tk tv d) (t + 1) with | .error x => .error x | .ok (c2, t2) => lpP tk (pPr tk (pUn tk tv d)) 8 9 2 3 f t2 (c ++ c2 ++ [(if tk t = 8 then 2 else 3, 0)])) else .error (2, t)) else .ok (c, t)) Q := hQ
    by_cases hor : tk t = 8 ∨ tk t = 9
    · obtain ⟨n12, rfl⟩ : ∃ n', n12 = n' + 1 := ⟨n12 - 1, by omega⟩
      obtain ⟨n96, rfl⟩ : ∃ n', n96 = n' + 1 := ⟨n96 - 1, by omega⟩
      rw [if_pos hor] at hQ'
      refine A_op hT hK h8 (o := tk t) (x1 := 0) hE ht rfl (Or.inr ⟨hor, rfl⟩) (fun w hw => ?_) hW (by rw [List.length_append, List.length_append]; omega) (by rw [List.length_append]; omega) (fun h4 ν' hE' => ?_) (fun h4 ν' hF => ?_)
      · rintro (hx | ⟨hx, _⟩)
        · exact hp w hw hx
        · exact hx rfl
      · rw [if_pos h4] at hQ'
        have hnx := TE_nx hT ht h4 (by omega) (by omega)
        rw [List.append_assoc, ← hc] at hE'
        have hpu := pPr_ok hT (fun t ht => pUn_ok (tv := tv) (d := d) hT ht) hnx
        refine PRx hT hK h8 hU ?_ (by rw [List.length_cons]; omega) hE' hnx (by rw [List.length_append, List.length_cons]; omega) (by omega) (by unfold FU; omega) ?_
        · show stops 1 (nI (tk t))
          refine Or.inr ⟨by decide, ?_⟩
          rcases hor with h | h <;> rw [h]
          · exact Or.inl rfl
          · exact Or.inr rfl
        · cases eu : pPr tk (pUn tk tv d) (t + 1) with
          | error x => rw [eu] at hQ'; exact hQ'
          | ok q =>
            obtain ⟨c2, t2⟩ := q
            rw [eu] at hQ' hpu
            obtain ⟨u1, u2, u3, u4⟩ := hpu
            intro p2 c2' ν'' n12'' n96'' hc2 hp2 hp21 hE'' g10 g15 g12 g96
            dsimp only at hQ'
            refine ih (c := c ++ c2 ++ [(if tk t = 8 then 2 else 3, 0)]) (c' := c ++ c2') (p := p2 ++ [nI (tk t)]) ?_ (fun w hw => ?_) (by rw [List.length_append, List.length_cons, List.length_nil]; omega) (by rw [← List.append_assoc, List.append_assoc p2]; exact hE'') u2 g10 g15 (by rw [List.length_append, List.length_append, List.length_cons, List.length_nil]; omega) (by omega) g12 g96 hQ'
            · rw [fls_app, hc2, ← List.append_assoc, ← List.append_assoc]
              congr 1
              rcases hor with h | h <;> rw [h] <;> rfl
            · rcases List.mem_append.mp hw with hw | hw
              · rcases hp2 w hw with h | h <;> rw [h] <;> decide
              · rw [List.mem_singleton] at hw
                subst hw
                rcases hor with h | h <;> rw [h] <;> decide
      · rw [if_neg h4] at hQ'
        exact hQ' ν' hF
    · rw [if_neg hor] at hQ'
      exact hQ' p c' ν n12 n96 hc hp hp1 hE ⟨fun h => hor (Or.inl h), fun h => hor (Or.inr h), h10, h15⟩ h12 h96
theorem SMx {tk : Nat → Nat} {tv : Nat → Int32} {tn : Nat → Int64} {pl : Nat → Int32} {e : Nat} {ν0 : Mem} {e0 ub : Nat} (hT : TE tk e) (hK : TKm tk tv tn pl e ν0) (h8 : ub ≤ 840) {d : Nat} (hU : ULx tk tv pl e ν0 e0 ub d) {E : Cd} {W : List Int32} {t n12 n23 : Nat} {ν : Mem} {Q : Mem → Prop} (hW : top_stops 0 W) (hW1 : top_stops 1 W) (hl : W.length + 3 * d ≤ 18) (hE : EMx ν0 e0 ub E W t (6 - d) ν) (ht : t ≤ e) (hr : e0 + E.length + W.length + 401 ≤ ub + t) (h12 : 401 < n12 + t) (h23 : 401 < n23 + t) (hQ : CtS pl ν0 e0 ub tk E W (6 - d) (pSm tk (pUn tk tv d) t) Q) : Wo (OOx n12 n23 ν) Q := by
  have hpu := pPr_ok hT (fun t ht => pUn_ok (tv := tv) (d := d) hT ht) ht
  refine PRx hT hK h8 hU hW1 (by omega) hE ht hr h12 h23 ?_
  unfold pSm at hQ
  cases eu : pPr tk (pUn tk tv d) t with
  | error x => rw [eu] at hQ; exact hQ
  | ok q =>
    obtain ⟨c, t1⟩ := q
    rw [eu] at hQ hpu
    obtain ⟨u1, u2, u3, u4⟩ := hpu
    intro p c' ν' m12 m96 hc hp hp1 hE' g10 g15 g12 g96
    dsimp only at hQ
    exact SLx hT hK h8 hU hW hW1 hl hc (fun w hw => by rcases hp w hw with h | h <;> rw [h] <;> decide) (by omega) hE' u2 g10 g15 (by omega) (by omega) g12 g96 hQ
/-- a fault behind '(' -/
theorem O_f {pl : Nat → Int32} {ν0 : Mem} {e0 ub k t n12 n23 : Nat} {E : Cd} {W : List Int32} {ν : Mem} {Q : Mem → Prop} (hC : CMx ν0 e0 ub E W ν) (h13 : ν.1 0 13 = nI k) (hk : k = 1 ∨ k = 2) (h14 : ν.1 0 14 = pl t) (hQ : ∀ ν', FMx pl ν0 e0 ub k t ν' → Q ν') : Wo (OOx n12 (n23 + 1) ν) Q := by
  unfold OOx
  show Wo (fX12_expression_s23 _ _ _) _
  unfold fX12_expression_s23
  rw [is_f h13 hk, b1_some, if_pos rfl]
  show Wo (b1 (fX12_unit ν) _) _
  unfold fX12_unit
  rw [is_f h13 hk, b1_some, if_pos rfl, h13, if_neg (nI_ne0 (by omega) (by omega)), fail_f h13 hk, b1_some, b1_some, h13, if_neg (nI_nle (by omega) (by omega)), Wo_some]
  exact hQ ν (FMx_of hC h13 h14)
theorem O_base {tk : Nat → Nat} {tv : Nat → Int32} {tn : Nat → Int64} {pl : Nat → Int32} {e : Nat} {ν0 : Mem} {e0 ub : Nat} (hT : TE tk e) (hK : TKm tk tv tn pl e ν0) (h8 : ub ≤ 840) {E : Cd} {W : List Int32} {t op n12 n23 : Nat} {ν : Mem} {Q : Mem → Prop} (hE : EMx ν0 e0 ub E W t op ν) (ht : t ≤ e) (hr : e0 + E.length + W.length + 401 ≤ ub + t) (h6 : tk t ≠ 6) (h12 : 401 < n12 + t) (hQ : CtR pl ν0 e0 ub E W op (pBs tk tv t) Q) : Wo (OOx n12 (n23 + 1) ν) Q := by
  have h400 := hT.1
  have hd := hT.2.2 t ht
  obtain ⟨hC, h13, h11, h12'⟩ := hE
  have hK1 := TKm_FX hK hC.2.2.2.2.2
  have i6 : fX12_is 6 ν = some 0 := by
    have := is_m (k := 6) hT hK1 h13 h11 ht (by omega)
    rw [if_neg h6] at this; exact this
  have i2 : fX12_is 2 ν = some (if tk t = 2 then 1 else 0) := is_m (k := 2) hT hK1 h13 h11 ht (by omega)
  unfold OOx
  show Wo (fX12_expression_s23 _ _ _) _
  unfold fX12_expression_s23
  rw [i6, b1_some, if_pos rfl]
  show Wo (b1 (fX12_unit ν) _) _
  unfold fX12_unit
  rw [i2]
  have put : ∀ (k : Nat) (v : Int32), (tk t ≠ 0 ∧ tk t ≠ 3) → CtR pl ν0 e0 ub E W op (if t < 400 then .ok ([(k, v)], t + 1) else .error (2, t)) Q → Wo (b1 (b1 (fX12_emit (nI k) v ν) (fun μ18 => b1 (fX12_goesOn μ18) (fun μ20 => some μ20))) (fun μ20 => (if (μ20.1 0 13) ≤ 0 then AAx n12 FU μ20 else some μ20))) Q := by
    intro k v hne hQ1
    obtain ⟨ν', e1, e2, e3⟩ := CMx_emit (k := k) (v := v) hC (by omega) h8
    have g11 : ν'.1 0 11 = nI t := by rw [e3 11 (by omega)]; exact h11
    have g12 : ν'.1 0 12 = nI op := by rw [e3 12 (by omega)]; exact h12'
    have g13 : ν'.1 0 13 = 0 := by rw [e3 13 (by omega)]; exact h13
    rw [e1, b1_some]
    by_cases h4 : t < 400
    · rw [if_pos h4] at hQ1
      rw [goesOn_ok g11 h4, b1_some, b1_some, rd_Ik (by omega), g13, if_pos (by decide)]
      exact hQ1 _ n12 FU ⟨CMx_0 e2 (by omega), by rw [rd_Ik (by omega)]; exact g13, rd_Is, by rw [rd_Ik (by omega)]; exact g12⟩ (by omega) (by unfold FU; omega)
    · rw [if_neg h4] at hQ1
      rw [goesOn_2 hT (TKm_FX hK e2.2.2.2.2.2) g13 g11 ht h4, b1_some, b1_some, rd_Ik (by omega), rd_Is, if_neg (by decide), Wo_some]
      exact hQ1 _ (FMx_of (CMx_0 (CMx_0 e2 (by omega)) (by omega)) (by rw [rd_Ik (by omega), rd_Is]; rfl) rd_Is)
  unfold pBs at hQ
  by_cases c2 : tk t = 2
  · rw [if_pos c2] at hQ
    rw [if_pos c2, b1_some, if_neg n10, h11, ix_nI (by omega) (by omega), gd_true, nI_clamp (by omega), (hK1 t ht).2.2.1 c2]
    exact put 0 (tv t) (by omega) hQ
  · rw [if_neg c2] at hQ
    rw [if_neg c2, b1_some, if_pos rfl, h13, if_pos rfl, h11, ix_nI (by omega) (by omega), gd_true, gd_true, gd_true, nI_clamp (by omega), (hK1 t ht).1]
    have bad : CtR pl ν0 e0 ub E W op (.error (1, t)) Q → Wo (b1 (b1 (fX12_fail 1 ν) (fun μ7 => some μ7)) (fun μ20 => (if (μ20.1 0 13) ≤ 0 then AAx n12 FU μ20 else some μ20))) Q := by
      intro hQ1
      rw [fail_m hT hK1 h13 h11 ht, b1_some, b1_some, rd_Ik (by omega), rd_Is, if_neg (by decide), Wo_some]
      exact hQ1 _ (FMx_of (CMx_0 (CMx_0 hC (by omega)) (by omega)) (by rw [rd_Ik (by omega), rd_Is]; rfl) rd_Is)
    by_cases cv : 32 ≤ tk t ∧ tk t ≤ 40
    · rw [if_pos cv] at hQ
      rw [if_neg (by simp (disch := omega) only [L_add, L_add2, L_mul, L_mul2, L_sub, nI_add, pk_mul, pk_sub, L_le, L_le2, L_lt, L_lt2, L_eq, L_eq2, nI_leI, nI_ltI, nI_eq, nI_clamp, ix_nI, ix_lit, L_cl]; omega), if_neg (by simp (disch := omega) only [L_add, L_add2, L_mul, L_mul2, L_sub, nI_add, pk_mul, pk_sub, L_le, L_le2, L_lt, L_lt2, L_eq, L_eq2, nI_leI, nI_ltI, nI_eq, nI_clamp, ix_nI, ix_lit, L_cl]; omega), L_sub (by omega)]
      exact put 1 (nI (tk t - 32)) (by omega) hQ
    · rw [if_neg cv] at hQ
      by_cases c32 : tk t < 32
      · rw [if_pos (by simp (disch := omega) only [L_add, L_add2, L_mul, L_mul2, L_sub, nI_add, pk_mul, pk_sub, L_le, L_le2, L_lt, L_lt2, L_eq, L_eq2, nI_leI, nI_ltI, nI_eq, nI_clamp, ix_nI, ix_lit, L_cl]; omega)]; exact bad hQ
      · omega
