/-- two rows are alike in one house (and the day) -/
def EqH (h : Nat) (R R' : Rw) : Prop := R' h = R h ∧ R' (6 + h) = R (6 + h) ∧ R' (12 + h) = R (12 + h) ∧ R' (18 + h) = R (18 + h) ∧ R' (24 + h) = R (24 + h) ∧ R' (30 + h) = R (30 + h) ∧ R' 36 = R 36
theorem EqH_rfl {h : Nat} {R : Rw} : EqH h R R := ⟨rfl, rfl, rfl, rfl, rfl, rfl, rfl⟩
theorem EqH_sym {h : Nat} {R R' : Rw} (e : EqH h R R') : EqH h R' R := ⟨e.1.symm, e.2.1.symm, e.2.2.1.symm, e.2.2.2.1.symm, e.2.2.2.2.1.symm, e.2.2.2.2.2.1.symm, e.2.2.2.2.2.2.symm⟩
theorem EqH_tr {h : Nat} {R R' R'' : Rw} (e : EqH h R R') (f : EqH h R' R'') : EqH h R R'' := ⟨f.1.trans e.1, f.2.1.trans e.2.1, f.2.2.1.trans e.2.2.1, f.2.2.2.1.trans e.2.2.2.1, f.2.2.2.2.1.trans e.2.2.2.2.1, f.2.2.2.2.2.1.trans e.2.2.2.2.2.1, f.2.2.2.2.2.2.trans e.2.2.2.2.2.2⟩
theorem HV_EqH {pan R R' : Rw} {h : Nat} (hh : h < 6) (e : EqH h R R') : HV pan R' h = HV pan R h := HV_ext hh e.1 e.2.1 e.2.2.1 e.2.2.2.1 e.2.2.2.2.1 e.2.2.2.2.2.1 e.2.2.2.2.2.2
theorem sF_EqH {w : Kw} {R R' : Rw} {h : Nat} (hh : h < 6) (e : EqH h R R') : sF w R' h = sF w R h := by unfold sF; rw [HV_EqH hh e, e.2.2.1]
theorem sW_EqH {w : Kw} {R R' : Rw} {h : Nat} (hh : h < 6) (e : EqH h R R') : sW w R' h = sW w R h := by unfold sW; rw [HV_EqH hh e]
theorem sC_EqH {w : Kw} {R R' : Rw} {h : Nat} (hh : h < 6) (e : EqH h R R') : sC w R' h = sC w R h := by unfold sC; rw [HV_EqH hh e]
theorem sCh_EqH {w : Kw} {R R' : Rw} {h : Nat} (hh : h < 6) (e : EqH h R R') : sCh w R' h = sCh w R h := by unfold sCh; rw [sC_EqH hh e, e.2.2.2.1]
theorem sB1_EqH {w : Kw} {R R' : Rw} {h : Nat} (hh : h < 6) (e : EqH h R R') : EqH h (sB1 w h R) (sB1 w h R') := by
  unfold sB1
  rw [sW_EqH hh e, e.2.1, e.2.2.2.2.2.1]
  unfold EqH
  simp (disch := omega) only [pk_us, pk_un]
  exact ⟨e.1, trivial, e.2.2.1, e.2.2.2.1, e.2.2.2.2.1, trivial, e.2.2.2.2.2.2⟩
theorem sB_EqH {w : Kw} {R R' : Rw} {h : Nat} (hh : h < 6) (e : EqH h R R') (n : Nat) : EqH h (sB w h n R) (sB w h n R') := by
  induction n with
  | zero => exact e
  | succ n ih => exact sB1_EqH hh ih
theorem sB1_ne {w : Kw} {R : Rw} {h k : Nat} (h1 : k ≠ 6 + h) (h2 : k ≠ 30 + h) : sB1 w h R k = R k := by
  unfold sB1; rw [pk_un h2, pk_un h1]
theorem sB_ne {w : Kw} {R : Rw} {h k n : Nat} (h1 : k ≠ 6 + h) (h2 : k ≠ 30 + h) : sB w h n R k = R k := by
  induction n with
  | zero => rfl
  | succ n ih => exact (sB1_ne h1 h2).trans ih
theorem sB_oth {w : Kw} {R : Rw} {h h' n : Nat} (hh : h < 6) (hh' : h' < 6) (hn : h ≠ h') : EqH h' R (sB w h n R) := by
  refine ⟨sB_ne ?_ ?_, sB_ne ?_ ?_, sB_ne ?_ ?_, sB_ne ?_ ?_, sB_ne ?_ ?_, sB_ne ?_ ?_, sB_ne ?_ ?_⟩ <;> omega
theorem sP_EqH {w : Kw} {R R' : Rw} {h : Nat} (hh : h < 6) (e : EqH h R R') : EqH h (sP w R h) (sP w R' h) := by
  unfold sP
  rw [sF_EqH hh e, sCh_EqH hh e, e.2.1, e.2.2.1]
  unfold EqH
  simp (disch := omega) only [pk_us, pk_un]
  exact ⟨e.1, trivial, trivial, e.2.2.2.1, e.2.2.2.2.1, trivial, e.2.2.2.2.2.2⟩
theorem sP_oth {w : Kw} {R : Rw} {h h' : Nat} (hh : h < 6) (hh' : h' < 6) (hn : h ≠ h') : EqH h' R (sP w R h) := by
  refine ⟨sP_ne ?_ ?_ ?_, sP_ne ?_ ?_ ?_, sP_ne ?_ ?_ ?_, sP_ne ?_ ?_ ?_, sP_ne ?_ ?_ ?_, sP_ne ?_ ?_ ?_, sP_ne ?_ ?_ ?_⟩ <;> omega
theorem sPs_bef {w : Kw} {R : Rw} {h n : Nat} (hn : n ≤ h) (hh : h < 6) : EqH h R (sPs w n R) := by
  induction n with
  | zero => exact EqH_rfl
  | succ n ih => exact EqH_tr (ih (by omega)) (sP_oth (by omega) hh (by omega))
theorem sPs_own {w : Kw} {R : Rw} {h n : Nat} (hh : h < n) (hn : n ≤ 6) : EqH h (sP w R h) (sPs w n R) := by
  induction n with
  | zero => omega
  | succ n ih =>
    by_cases he : h = n
    · subst he; exact sP_EqH (by omega) (sPs_bef (Nat.le_refl _) (by omega))
    · exact EqH_tr (ih (by omega) (by omega)) (sP_oth (by omega) (by omega) (by omega))
theorem sPs_EqH {w : Kw} {R R' : Rw} {h : Nat} (hh : h < kn w) (hn : kn w ≤ 6) (e : EqH h R R') : EqH h (sP w R h) (sPs w (kn w) R') := EqH_tr (sP_EqH (by omega) e) (sPs_own hh hn)
/-- a day of one house -/
def sD1 (w : Kw) (st : Option Int32) (h : Nat) (R : Rw) : Rw :=
  match st with
  | none => upd (sP w R h) 36 (R 36 + 1)
  | some s => upd (if sK w s (R 36) = some h then sBk w h (sP w R h) else sP w R h) 36 (R 36 + 1)
theorem RG_D1 {w : Kw} {R : Rw} {h : Nat} (hK : KW w) (hR : RG w R) (hh : h < 6) (st : Option Int32) : RG w (sD1 w st h R) := by
  unfold sD1
  split
  · exact RG_36 (RG_P hR hh) _
  · refine RG_36 ?_ _
    split
    · exact RG_Bk hK (RG_P hR hh) hh
    · exact RG_P hR hh
theorem EqH_36 {h : Nat} {R R' : Rw} (hh : h < 6) (e : EqH h R R') (v : Int32) : EqH h (upd R 36 v) (upd R' 36 v) := by
  unfold EqH
  simp (disch := omega) only [pk_us, pk_un]
  exact ⟨e.1, e.2.1, e.2.2.1, e.2.2.2.1, e.2.2.2.2.1, e.2.2.2.2.2.1, trivial⟩
theorem sBk_EqH {w : Kw} {h : Nat} {R R' : Rw} (hh : h < 6) (e : EqH h R R') : EqH h (sBk w h R) (sBk w h R') := by
  unfold sBk
  rw [e.1]
  split
  · exact e
  · unfold EqH
    simp (disch := omega) only [pk_us, pk_un]
    exact ⟨trivial, e.2⟩
theorem sBk_oth {w : Kw} {h h' : Nat} {R : Rw} (hh : h < 6) (hh' : h' < 6) (hn : h ≠ h') : EqH h' R (sBk w h R) := by
  unfold sBk
  split
  · exact EqH_rfl
  · unfold EqH
    simp (disch := omega) only [pk_us, pk_un, and_self]
theorem EqH_day {w : Kw} {h : Nat} {R R' : Rw} (hn : kn w ≤ 6) (hh : h < kn w) (e : EqH h R R') (st : Option Int32) : EqH h (sD1 w st h R) (sDay w st R') := by
  cases st with
  | none =>
    show EqH h (upd (sP w R h) 36 (R 36 + 1)) (upd (sPs w (kn w) R') 36 (R' 36 + 1))
    rw [e.2.2.2.2.2.2]
    exact EqH_36 (by omega) (sPs_EqH hh hn e) _
  | some s =>
    show EqH h (upd (if sK w s (R 36) = some h then sBk w h (sP w R h) else sP w R h) 36 (R 36 + 1)) (upd (sH w s (sPs w (kn w) R')) 36 (R' 36 + 1))
    have h36 : sPs w (kn w) R' 36 = R 36 := (sPs_ne (fun _ _ => by omega)).trans e.2.2.2.2.2.2
    rw [e.2.2.2.2.2.2]
    refine EqH_36 (by omega) ?_ _
    have e2 := sPs_EqH hh hn e
    unfold sH
    rw [h36]
    cases e3 : sK w s (R 36) with
    | none => rw [if_neg (by intro h; cases h)]; exact e2
    | some h' =>
      by_cases he : h' = h
      · subst he; rw [if_pos rfl]; exact sBk_EqH (by omega) e2
      · rw [if_neg (by intro hx; cases hx; exact he rfl)]
        have := (sK_lt hn e3).1
        exact EqH_tr e2 (sBk_oth (by omega) (by omega) he)
def sD1s (w : Kw) (st : Option Int32) (h : Nat) : Nat → Rw → Rw
  | 0, R => R
  | n + 1, R => sD1 w st h (sD1s w st h n R)
theorem RG_D1s {w : Kw} {R : Rw} {h : Nat} (hK : KW w) (hR : RG w R) (hh : h < 6) (st : Option Int32) (n : Nat) : RG w (sD1s w st h n R) := by
  induction n with
  | zero => exact hR
  | succ n ih => exact RG_D1 hK ih hh st
theorem EqH_days {w : Kw} {h : Nat} {R : Rw} (hn : kn w ≤ 6) (hh : h < kn w) (st : Option Int32) (n : Nat) : EqH h (sD1s w st h n R) (sDays w st n R) := by
  induction n with
  | zero => exact EqH_rfl
  | succ n ih => exact EqH_day hn hh ih st
/-- the first of the greatest -/
def am (g : Nat → Int32) : Nat → Option Nat
  | 0 => none
  | n + 1 => match am g n with
    | none => some n
    | some b => if g n ≤ g b then some b else some n
theorem am_lt {g : Nat → Int32} {n b : Nat} (h : am g n = some b) : b < n := by
  induction n generalizing b with
  | zero => cases h
  | succ n ih =>
    unfold am at h
    split at h
    · cases h; omega
    · split at h
      · cases h; have := ih (by assumption); omega
      · cases h; omega
theorem am_s {g : Nat → Int32} {n : Nat} (h : 0 < n) : ∃ b, am g n = some b := by
  cases n with
  | zero => omega
  | succ n =>
    unfold am
    split
    · exact ⟨_, rfl⟩
    · split <;> exact ⟨_, rfl⟩
def oI (o : Option Nat) : Int32 := match o with
  | none => -2
  | some b => nI b
def oV (g : Nat → Int32) (z : Int32) (o : Option Nat) : Int32 := match o with
  | none => z
  | some b => g b
theorem am_step {g : Nat → Int32} {z : Int32} {n : Nat} (hz : z < g n) : (if g n ≤ oV g z (am g n) then (oI (am g n), oV g z (am g n)) else (nI n, g n)) = (oI (am g (n + 1)), oV g z (am g (n + 1))) := by
  show _ = (oI (match am g n with | none => some n | some b => if g n ≤ g b then some b else some n), oV g z (match am g n with | none => some n | some b => if g n ≤ g b then some b else some n))
  cases am g n with
  | none =>
    rw [if_neg (by show ¬ g n ≤ z; grind)]; rfl
  | some b =>
    show (if g n ≤ g b then (nI b, g b) else (nI n, g n)) = (oI (if g n ≤ g b then some b else some n), oV g z (if g n ≤ g b then some b else some n))
    split <;> rfl
