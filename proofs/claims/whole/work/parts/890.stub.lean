theorem r_read {μ ν : Mem} (h : REL μ ν) : ∃ (r : Int32) (μ' : Mem) (ν' : Mem), fX11_read μ = some (r, μ') ∧ fX12_read ν = some (r, ν') ∧ REL μ' ν' := sorry
theorem r_house {μ ν : Mem} (h : REL μ ν) (z0 : Int32) (z1 : Int32) : ∃ (r : Int32) (μ' : Mem) (ν' : Mem), fX11_house z0 z1 μ = some (r, μ') ∧ fX12_house z0 z1 ν = some (r, ν') ∧ REL μ' ν' := sorry
theorem r_undo {μ ν : Mem} (h : REL μ ν) : ∃ (r : Int32) (μ' : Mem) (ν' : Mem), fX11_undo μ = some (r, μ') ∧ fX12_undo ν = some (r, ν') ∧ REL μ' ν' := sorry
theorem r_share {μ ν : Mem} (h : REL μ ν) (z0 : Int32) (z1 : Int32) : ∃ (r : Int32) (μ' : Mem) (ν' : Mem), fX11_share z0 z1 μ = some (r, μ') ∧ fX12_share z0 z1 ν = some (r, ν') ∧ REL μ' ν' := sorry
theorem r_enough {μ ν : Mem} (h : REL μ ν) : ∃ (r : Int32) (μ' : Mem) (ν' : Mem), fX11_enough μ = some (r, μ') ∧ fX12_enough ν = some (r, ν') ∧ REL μ' ν' := sorry
theorem r_plan {μ ν : Mem} (h : REL μ ν) (z0 : Int32) (z1 : Int32) : ∃ (r : Int32) (μ' : Mem) (ν' : Mem), fX11_plan z0 z1 μ = some (r, μ') ∧ fX12_plan z0 z1 ν = some (r, ν') ∧ REL μ' ν' := sorry
theorem r_lasts {μ ν : Mem} (h : REL μ ν) : ∃ (r : Int32) (μ' : Mem) (ν' : Mem), fX11_lasts μ = some (r, μ') ∧ fX12_lasts ν = some (r, ν') ∧ REL μ' ν' := sorry
theorem r_far {μ ν : Mem} (h : REL μ ν) (z0 : Int32) (z1 : Int32) : ∃ (r : Int32), fX11_far z0 z1 μ = some r ∧ fX12_far z0 z1 ν = some r ∧ REL μ ν := sorry
theorem r_round {μ ν : Mem} (h : REL μ ν) (z0 : Int32) : ∃ (r : Int32) (μ' : Mem) (ν' : Mem), fX11_round z0 μ = some (r, μ') ∧ fX12_round z0 ν = some (r, ν') ∧ REL μ' ν' := sorry
theorem r_next {μ ν : Mem} (h : REL μ ν) (z0 : Int32) (z1 : Int32) : ∃ (r : Int32) (μ' : Mem) (ν' : Mem), fX11_next z0 z1 μ = some (r, μ') ∧ fX12_next z0 z1 ν = some (r, ν') ∧ REL μ' ν' := sorry
theorem r_pipes {μ ν : Mem} (h : REL μ ν) : ∃ (r : Int32), fX11_pipes μ = some r ∧ fX12_pipes ν = some r ∧ REL μ ν := sorry
theorem r_nearest {μ ν : Mem} (h : REL μ ν) (z0 : Int32) : ∃ (r : Int32), fX11_nearest z0 μ = some r ∧ fX12_nearest z0 ν = some r ∧ REL μ ν := sorry
theorem r_twins {μ ν : Mem} (h : REL μ ν) (z0 : Int32) : ∃ (r : Int32), fX11_twins z0 μ = some r ∧ fX12_twins z0 ν = some r ∧ REL μ ν := sorry
theorem r_roofs {μ ν : Mem} (h : REL μ ν) (z0 : Int32) : ∃ (r : Int32) (μ' : Mem) (ν' : Mem), fX11_roofs z0 μ = some (r, μ') ∧ fX12_roofs z0 ν = some (r, ν') ∧ REL μ' ν' := sorry
theorem r_paired {μ ν : Mem} (h : REL μ ν) (z0 : Int32) : ∃ (r : Int32) (μ' : Mem) (ν' : Mem), fX11_paired z0 μ = some (r, μ') ∧ fX12_paired z0 ν = some (r, ν') ∧ REL μ' ν' := sorry
theorem r_summers {μ ν : Mem} (h : REL μ ν) (z0 : Int32) : ∃ (r : Int32), fX11_summers z0 μ = some r ∧ fX12_summers z0 ν = some r ∧ REL μ ν := sorry
theorem r_tell {μ ν : Mem} (h : REL μ ν) (z0 : Int32) (z1 : Int32) (z2 : Int32) (hz2 : z2 = 0 ∨ z2 = 1) : ∃ (r : Int32) (μ' : Mem) (ν' : Mem), fX11_tell z0 z1 z2 μ = some (r, μ') ∧ fX12_tell z0 z1 z2 ν = some (r, ν') ∧ REL μ' ν' := sorry
theorem r_forget {μ ν : Mem} (h : REL μ ν) : ∃ (r : Int32) (μ' : Mem) (ν' : Mem), fX11_forget μ = some (r, μ') ∧ fX12_forget ν = some (r, ν') ∧ REL μ' ν' := sorry
theorem r_whose {μ ν : Mem} (h : REL μ ν) (z0 : Int32) (z1 : Int32) : ∃ (r : Int32), fX11_whose z0 z1 μ = some r ∧ fX12_whose z0 z1 ν = some r ∧ REL μ ν := sorry
theorem r_look {μ ν : Mem} (h : REL μ ν) (z0 : Int32) (z1 : Int32) : ∃ (r : Int32), fX11_look z0 z1 μ = some r ∧ fX12_look z0 z1 ν = some r ∧ REL μ ν := sorry
theorem r_hold {μ ν : Mem} (h : REL μ ν) (z0 : Int32) : ∃ (r : Int32) (μ' : Mem) (ν' : Mem), fX11_hold z0 μ = some (r, μ') ∧ fX12_hold z0 ν = some (r, ν') ∧ REL μ' ν' := sorry
theorem r_restore {μ ν : Mem} (h : REL μ ν) (z0 : Int32) : ∃ (r : Int32) (μ' : Mem) (ν' : Mem), fX11_restore z0 μ = some (r, μ') ∧ fX12_restore z0 ν = some (r, ν') ∧ REL μ' ν' := sorry
theorem r_count {μ ν : Mem} (h : REL μ ν) (z0 : Int32) : ∃ (r : Int32) (μ' : Mem) (ν' : Mem), fX11_count z0 μ = some (r, μ') ∧ fX12_count z0 ν = some (r, ν') ∧ REL μ' ν' := sorry
theorem r_init (μ ν : Mem) : ∃ μ0 ν0 : Mem, fX11_init (zr μ 0) = some μ0 ∧ fX12_init (zr ν 0) = some ν0 ∧ REL μ0 ν0 := sorry
