/-! the tables are checked -/
theorem zgw_all : lw_tbl.all goodWord = true := by decide +kernel
theorem zmok_all0 : (List.range 278).all zMok = true := by decide +kernel
theorem zmok_all : ∀ z, z < 278 → zMok z = true := fun z h => List.all_eq_true.mp zmok_all0 z (List.mem_range.mpr h)
theorem zcok_0 : (List.range 40).all zCok = true := by decide +kernel
