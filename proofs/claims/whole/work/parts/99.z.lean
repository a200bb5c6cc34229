/-! THE END -/
theorem law_inv : LawInv Inv := ⟨start_ok, hr_ok, skip_ok, ok_clear, ok_add, ok_find, ok_triangle, ok_neighbours, ok_neighbour, ok_corner, ok_locate, ok_located, ok_nearest, ok_closest, ok_point, ok_count⟩
theorem i_vc : Claimed_1_1 ∧ Claimed_1_2 := whole_end law_inv
