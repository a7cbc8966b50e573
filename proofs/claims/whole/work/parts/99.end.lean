/-! the law -/
theorem z_inv0 : zI Rz z_S0 z_M0 := by
  refine ⟨⟨0, fun _ => 0, fun _ => 0, fun _ => 0, fun _ => 0, by omega, rfl, rfl, fun k hk => absurd hk (by omega), fun i k _ hk => absurd hk (by omega)⟩, ⟨0, fun _ => true, fun _ => 0, fun _ => 0, fun _ => 0, by omega, rfl, rfl, fun k hk => absurd hk (by omega)⟩, ⟨rfl, Or.inl rfl⟩, fun h => absurd h (by decide)⟩
theorem z_sim : z_Sim (zI Rz) := ⟨zo_line _, zo_limit _, zo_cut _, zo_bid _, zo_offer _, zo_cancel _, zo_clear, zo_steps _, zo_lines _, zo_scale, zo_accepted, zo_flow, zo_tight, zo_welfare, zo_extraTop, zo_extraBottom, zo_check, zo_rent⟩
