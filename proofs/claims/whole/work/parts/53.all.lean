/-! all calls; the beginning -/
theorem all_ok : AllOK Rel := ⟨op_type, op_wipe, op_undo, op_fault, op_peg, op_hide, op_set, op_read, op_far, op_web, op_length, op_crosses, op_hangs, op_pieces, op_turned, op_more, op_begin, op_last, op_two, op_seen, op_forget, op_fits, op_tells, op_flies, op_dew, op_sheet, op_lose, op_put, op_get, op_copy, op_write, op_count, op_digest⟩
theorem rel_0 : Rel hp0 := by
  have z2 : hp0 2 = fun _ => 0 := rfl
  have z32 : hp0 32 = fun _ => 0 := rfl
  have hp : parse (hp0 32) 0 = (-1, 0) := rfl
  refine ⟨⟨0, by omega, rfl, rfl, rfl, ?_, ?_, fun k hk => ?_⟩, ⟨rfl, ⟨99, by omega, rfl, rfl⟩, ⟨0, by omega, rfl, rfl⟩, ⟨1, by omega, rfl, rfl⟩, rfl⟩, ⟨rfl, rfl, rfl, 0, by omega, rfl, rfl, fun i hi => absurd hi (Nat.not_lt_zero i)⟩, fun s hs => ?_⟩
  · rw [hp]; rfl
  · rw [hp]; rfl
  · rw [hp] at hk; exact absurd hk (Nat.not_lt_zero k)
  · rcases (show s = 0 ∨ s = 1 ∨ s = 2 ∨ s = 3 by omega) with rfl | rfl | rfl | rfl <;> exact ⟨false, 0, 0, by omega, by omega, rfl, rfl, rfl, rfl, rfl, rfl, fun i hi => absurd hi (Nat.not_lt_zero i)⟩
