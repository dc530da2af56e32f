/-! written indices -/
theorem zx : zix (nI 0) = 0 ∧ zix (nI 1) = 1 ∧ zix (nI 2) = 2 ∧ zix (nI 3) = 3 ∧ zix (nI 4) = 4 ∧ zix (nI 5) = 5 ∧ zix (nI 6) = 6 ∧ zix (nI 7) = 7 ∧ zix (nI 8) = 8 ∧ zix (nI 9) = 9 ∧ zix (nI 10) = 10 ∧ zix (nI 11) = 11 ∧ zix (nI 12) = 12 ∧ zix (nI 13) = 13 ∧ zix (nI 14) = 14 ∧ zix (nI 15) = 15 ∧ zix (nI 16) = 16 ∧ zix (nI 17) = 17 ∧ zix (nI 18) = 18 ∧ zix (nI 19) = 19 ∧ zix (nI 20) = 20 ∧ zix (nI 21) = 21 ∧ zix (nI 22) = 22 ∧ zix (nI 23) = 23 ∧ zix (nI 24) = 24 ∧ zix (nI 25) = 25 ∧ zix (nI 26) = 26 ∧ zix (nI 27) = 27 ∧ zix (nI 28) = 28 ∧ zix (nI 29) = 29 ∧ zix (nI 30) = 30 ∧ zix (nI 31) = 31 ∧ zix (nI 32) = 32 ∧ zix (nI 33) = 33 ∧ zix (nI 34) = 34 ∧ zix (nI 35) = 35 ∧ zix (nI 36) = 36 ∧ zix (nI 37) = 37 ∧ zix (nI 38) = 38 ∧ zix (nI 39) = 39 ∧ zix (nI 40) = 40 ∧ zix (nI 41) = 41 ∧ zix (nI 42) = 42 ∧ zix (nI 43) = 43 ∧ zix (nI 44) = 44 ∧ zix (nI 45) = 45 ∧ zix (nI 46) = 46 ∧ zix (nI 47) = 47 ∧ zix (nI 48) = 48 ∧ zix (nI 49) = 49 ∧ zix (nI 50) = 50 ∧ zix (nI 51) = 51 ∧ zix (nI 52) = 52 ∧ zix (nI 53) = 53 ∧ zix (nI 54) = 54 ∧ zix (nI 55) = 55 ∧ zix (nI 56) = 56 ∧ zix (nI 57) = 57 ∧ zix (nI 58) = 58 ∧ zix (nI 59) = 59 := by
  refine ⟨?_, ?_, ?_, ?_, ?_, ?_, ?_, ?_, ?_, ?_, ?_, ?_, ?_, ?_, ?_, ?_, ?_, ?_, ?_, ?_, ?_, ?_, ?_, ?_, ?_, ?_, ?_, ?_, ?_, ?_, ?_, ?_, ?_, ?_, ?_, ?_, ?_, ?_, ?_, ?_, ?_, ?_, ?_, ?_, ?_, ?_, ?_, ?_, ?_, ?_, ?_, ?_, ?_, ?_, ?_, ?_, ?_, ?_, ?_, ?_⟩ <;> exact zix_nI (by decide)
theorem zn9 : zin (nI 0) 9 ∧ zin (nI 1) 9 ∧ zin (nI 2) 9 ∧ zin (nI 3) 9 ∧ zin (nI 4) 9 ∧ zin (nI 5) 9 ∧ zin (nI 6) 9 ∧ zin (nI 7) 9 ∧ zin (nI 8) 9 := by
  refine ⟨?_, ?_, ?_, ?_, ?_, ?_, ?_, ?_, ?_⟩ <;> exact (zin_nI (by decide)).mpr (by decide)
theorem zn2 : zin (nI 0) 2 ∧ zin (nI 1) 2 := by
  refine ⟨?_, ?_⟩ <;> exact (zin_nI (by decide)).mpr (by decide)
theorem zn4 : zin (nI 0) 4 ∧ zin (nI 1) 4 ∧ zin (nI 2) 4 ∧ zin (nI 3) 4 := by
  refine ⟨?_, ?_, ?_, ?_⟩ <;> exact (zin_nI (by decide)).mpr (by decide)
theorem zn58 : zin (nI 20) 58 ∧ zin (nI 55) 58 ∧ zin (nI 56) 58 ∧ zin (nI 57) 58 := by
  refine ⟨?_, ?_, ?_, ?_⟩ <;> exact (zin_nI (by decide)).mpr (by decide)
theorem zn3 : zin (nI 0) 3 ∧ zin (nI 1) 3 ∧ zin (nI 2) 3 := by
  refine ⟨?_, ?_, ?_⟩ <;> exact (zin_nI (by decide)).mpr (by decide)
theorem zn5 : zin (nI 0) 5 ∧ zin (nI 1) 5 ∧ zin (nI 2) 5 ∧ zin (nI 3) 5 ∧ zin (nI 4) 5 := by
  refine ⟨?_, ?_, ?_, ?_, ?_⟩ <;> exact (zin_nI (by decide)).mpr (by decide)
theorem zn7 : zin (nI 0) 7 ∧ zin (nI 1) 7 ∧ zin (nI 2) 7 ∧ zin (nI 3) 7 ∧ zin (nI 4) 7 ∧ zin (nI 5) 7 ∧ zin (nI 6) 7 := by
  refine ⟨?_, ?_, ?_, ?_, ?_, ?_, ?_⟩ <;> exact (zin_nI (by decide)).mpr (by decide)
