/-! the start, and all calls -/
theorem st_base : lwBase Rel := by
  refine ⟨fun t n sx sm h => ⟨h.1.1, h.1.2.1⟩, fun t n sx sm _ h => Rel_up h, ?_⟩
  refine ⟨⟨by omega, rfl, rfl⟩, fun p hp => absurd hp (by omega), fun p h1 h2 => rfl, ⟨2, by omega, by omega, rfl, rfl⟩, ⟨300000, 100000, 3000000, by omega, by omega, by omega, rfl, rfl, rfl, rfl, rfl, rfl⟩, ⟨0, by omega, rfl, rfl⟩, ⟨0, by omega, rfl, rfl, fun _ => 0, fun _ => 0, fun k hk => absurd hk (by omega), fun i j hi => absurd hi (by omega)⟩, fun m hm => Or.inl ?_, ⟨0, by omega, rfl, rfl⟩, ⟨1500000, by omega, rfl, rfl⟩, ⟨0, by omega, rfl, rfl, fun i hi => absurd hi (by omega)⟩, fun j h1 h2 => ⟨0, by omega, ?_, ?_⟩⟩
  · match m, hm with
    | 0, _ => exact ⟨rfl, rfl, rfl, rfl⟩
    | 1, _ => exact ⟨rfl, rfl, rfl, rfl⟩
    | 2, _ => exact ⟨rfl, rfl, rfl, rfl⟩
    | 3, _ => exact ⟨rfl, rfl, rfl, rfl⟩
    | 4, _ => exact ⟨rfl, rfl, rfl, rfl⟩
  · rfl
  · rfl
theorem st_all : lwAll Rel 1025 := ⟨st_player 1025 (by omega), st_become 1025, st_as 1025 (by omega), st_share 1025, st_shift 1025, st_mean 1025 (by omega), st_chance 1025 (by omega), st_season 1025 (by omega), st_size 1025 (by omega), st_bounds 1025, st_wait 1025 (by omega), st_leave 1025 (by omega), st_waited 1025 (by omega), st_pairing 1025 (by omega), st_tick 1025 (by omega), st_match 1025 (by omega), st_end 1025 (by omega), st_drop 1025 (by omega), st_surprise 1025 (by omega), st_sinking 1025 (by omega), st_limit 1025, st_tell 1025, st_check 1025 (by omega), st_count 1025 (by omega), st_found 1025⟩
