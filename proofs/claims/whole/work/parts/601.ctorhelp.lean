theorem ft_rem {t : Nat} {Rem : List Nat} (h : (List.range 80).all (fun k => FT t k == 0 || Rem.contains k) = true) (hlen : decide ((FTL.getD t []).length ≤ 80) = true) : ∀ k, FT t k ≠ 0 → Rem.contains k = true := by
  intro k hk
  have hlen := of_decide_eq_true hlen
  by_cases hk2 : k < 80
  · have h1 := List.all_eq_true.mp h k (List.mem_range.mpr hk2)
    simpa [hk] using h1
  · exfalso
    apply hk
    unfold FT
    rw [List.getD_eq_getElem?_getD, List.getElem?_eq_none (by omega)]
    rfl
def ch (h : Nat) (N : Nat → Nat → Bool) : Nat → Nat → Bool := fun j k => if j = h then true else N j k
theorem ch_eq {h k : Nat} {N : Nat → Nat → Bool} : ch h N h k = true := if_pos rfl
theorem ch_ne {h j k : Nat} {N : Nat → Nat → Bool} (hj : j ≠ h) : ch h N j k = N j k := if_neg hj
theorem rmc_ok {d d' ny mc ms : Nat} (h : d + 1 ≤ d') (h2 : ny ≤ 45) : d + 1 ≤ (rmc d' mc ms).frames ∧ 8 + (ny + 11) + 64 * d ≤ (rmc d' mc ms).locals := ⟨h, by show _ ≤ 64 * d'; omega⟩
theorem fv_upI {B i t k x : Nat} {N : Nat → Nat → Bool} {μ : Mem} {v : Int32} (hf : FT t k = 0) : fv B N (upI μ i k v) i t x = if x = k then .int v else fv B N μ i t x := by
  unfold fv
  have hu : (upI μ i k v).1 i = upd (μ.1 i) k v := upA_eq
  rw [hu]
  by_cases e : x = k
  · subst e; simp [hf, upd]
  · simp [e, upd]
def LHistory : List (Nat × Nat) := [(0, 5), (104, 40), (7, 5), (100, 42), (7, 5), (100, 42), (7, 5), (100, 42), (7, 5), (100, 42), (7, 5), (100, 42), (7, 5), (100, 42), (7, 5), (100, 42), (7, 5), (100, 42), (7, 5), (100, 42), (7, 5), (100, 42), (7, 5), (100, 42), (7, 5), (100, 42), (7, 5), (100, 42), (7, 5), (100, 42), (7, 5), (100, 42), (7, 5), (100, 42), (7, 5), (100, 42), (7, 5), (100, 42), (7, 5), (100, 42), (7, 5), (100, 42), (7, 5), (100, 42), (7, 5), (100, 42), (7, 5), (100, 42), (7, 5), (100, 42), (7, 5), (100, 42), (7, 5), (100, 42), (7, 5), (100, 42), (7, 5), (100, 42), (7, 5), (100, 42), (7, 5), (100, 42), (7, 5), (100, 42), (7, 5), (100, 42), (7, 5), (100, 42), (7, 5), (100, 42), (7, 5), (100, 42), (7, 5), (100, 42), (7, 5), (100, 42), (7, 5), (100, 42), (7, 5), (100, 42), (7, 5), (100, 42), (104, 3), (7, 5), (100, 42), (7, 5), (100, 42), (7, 5), (100, 42), (101, 3)]
def LLaws : List (Nat × Nat) := [(1, 5), (100, 416), (100, 416), (100, 4), (100, 32)]
def LPairs : List (Nat × Nat) := [(2, 3), (100, 6), (100, 6)]
def LQuarter : List (Nat × Nat) := [(3, 7), (100, 30), (1, 5), (100, 416), (100, 416), (100, 4), (100, 32)]
def LReader : List (Nat × Nat) := [(4, 6), (8, 5), (103, 21), (100, 401), (103, 401), (100, 401), (3, 7), (100, 30), (1, 5), (100, 416), (100, 416), (100, 4), (100, 32), (103, 6)]
def LRoofs : List (Nat × Nat) := [(5, 2), (100, 6), (100, 6)]
def LState : List (Nat × Nat) := [(7, 5), (100, 42)]
def LTokens : List (Nat × Nat) := [(8, 5), (103, 21), (100, 401), (103, 401), (100, 401)]
def LTold : List (Nat × Nat) := [(9, 4), (100, 20), (100, 20), (101, 20)]
def LWay : List (Nat × Nat) := [(10, 3), (100, 6), (100, 6)]
def LShares (n : Nat) : List (Nat × Nat) := [(6, 6), (7, 5), (100, 42), (105, 6), (100, n), (100, n), (100, n), (100, n), (100, n), (100, n), (105, 7), (100, n), (100, n), (100, n), (100, n), (100, n), (100, n), (100, n), (100, 6)]
