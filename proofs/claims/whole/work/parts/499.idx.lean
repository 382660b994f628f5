section IX
variable {p : Program} {l : Launch} {e : Env} {s : State} {m : MethodId} {args : Array Value} {below : List Frame} {meth : Method} {c : Code} {H : Heap} {locs : List Loc} {Q : State → Prop}
variable {cc : ByteArray} {pc nL d : Nat} {ls : Array Slot} {rest : List Value} {ω : WW} {μ : Mem} {own : String} {X : Nat → Nat}
theorem h_indexOf {x rr : Int32} (hE : EF X (wA ω) s) (C : Cx ω p s m args c cc nL RX8) (hl : ls.size = nL) (hH : Hd ω μ H) (hS : FS ω s H locs) (hf : fSIGNS x = some rr) (hdg : decode cc pc = .ok (.invokevirtual 77, 3))
    (kk : ∀ (H1 : Heap) (locs1 : List Loc), Hd ω μ H1 → FS ω s H1 locs1 → W p l e (rmd d) s m args below meth c H1 locs1 0 0 Q (F0 m (pc + 3) ls (.int rr :: rest))) : W p l e (rmd d) s m args below meth c H locs 0 0 Q (F0 m pc ls (.int x :: .ref (X 4) :: rest)) := sorry
end IX
