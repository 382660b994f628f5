theorem r_init (μ ν : Mem) : ∃ μ0 ν0 : Mem, fX11_init (zr μ 0) = some μ0 ∧ fX12_init (zr ν 0) = some ν0 ∧ REL μ0 ν0 := sorry
