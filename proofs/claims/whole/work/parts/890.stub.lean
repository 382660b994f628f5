theorem r_read {μ ν : Mem} (h : REL μ ν) : ∃ (r : Int32) (μ' : Mem) (ν' : Mem), fX11_read μ = some (r, μ') ∧ fX12_read ν = some (r, ν') ∧ REL μ' ν' := sorry
theorem r_init (μ ν : Mem) : ∃ μ0 ν0 : Mem, fX11_init (zr μ 0) = some μ0 ∧ fX12_init (zr ν 0) = some ν0 ∧ REL μ0 ν0 := sorry
