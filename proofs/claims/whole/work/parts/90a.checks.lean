/-! the tables are checked, method by method -/
theorem zmok_all0 : (List.range 278).all zMok = true := by decide +kernel
theorem zmok_all : ∀ z, z < 278 → zMok z = true := fun z h => List.all_eq_true.mp zmok_all0 z (List.mem_range.mpr h)
theorem all_td {f : zE → Bool} {l : List zE} (n : Nat) (h1 : (l.take n).all f = true) (h2 : (l.drop n).all f = true) : l.all f = true := by
  rw [← List.take_append_drop n l, List.all_append, h1, h2]
  rfl
theorem zcok_0 : ∀ z, 0 ≤ z → z < 7 → zCok z = true := fun z h1 h2 => by
  have h : (List.range 7).all (fun i => zCok (0 + i)) = true := by decide +kernel
  have := List.all_eq_true.mp h (z - 0) (List.mem_range.mpr (by omega))
  rwa [show 0 + (z - 0) = z by omega] at this
theorem zcok_1 : ∀ z, 7 ≤ z → z < 11 → zCok z = true := fun z h1 h2 => by
  have h : (List.range 4).all (fun i => zCok (7 + i)) = true := by decide +kernel
  have := List.all_eq_true.mp h (z - 7) (List.mem_range.mpr (by omega))
  rwa [show 7 + (z - 7) = z by omega] at this
theorem zcok_2 : ∀ z, 11 ≤ z → z < 19 → zCok z = true := fun z h1 h2 => by
  have h : (List.range 8).all (fun i => zCok (11 + i)) = true := by decide +kernel
  have := List.all_eq_true.mp h (z - 11) (List.mem_range.mpr (by omega))
  rwa [show 11 + (z - 11) = z by omega] at this
theorem zcok_3 : ∀ z, 19 ≤ z → z < 25 → zCok z = true := fun z h1 h2 => by
  have h : (List.range 6).all (fun i => zCok (19 + i)) = true := by decide +kernel
  have := List.all_eq_true.mp h (z - 19) (List.mem_range.mpr (by omega))
  rwa [show 19 + (z - 19) = z by omega] at this
theorem zcok_4 : ∀ z, 25 ≤ z → z < 30 → zCok z = true := fun z h1 h2 => by
  have h : (List.range 5).all (fun i => zCok (25 + i)) = true := by decide +kernel
  have := List.all_eq_true.mp h (z - 25) (List.mem_range.mpr (by omega))
  rwa [show 25 + (z - 25) = z by omega] at this
theorem zcok_5 : ∀ z, 30 ≤ z → z < 34 → zCok z = true := fun z h1 h2 => by
  have h : (List.range 4).all (fun i => zCok (30 + i)) = true := by decide +kernel
  have := List.all_eq_true.mp h (z - 30) (List.mem_range.mpr (by omega))
  rwa [show 30 + (z - 30) = z by omega] at this
theorem zcok_6 : ∀ z, 34 ≤ z → z < 37 → zCok z = true := fun z h1 h2 => by
  have h : (List.range 3).all (fun i => zCok (34 + i)) = true := by decide +kernel
  have := List.all_eq_true.mp h (z - 34) (List.mem_range.mpr (by omega))
  rwa [show 34 + (z - 34) = z by omega] at this
theorem zcok_7 : ∀ z, 37 ≤ z → z < 41 → zCok z = true := fun z h1 h2 => by
  have h : (List.range 4).all (fun i => zCok (37 + i)) = true := by decide +kernel
  have := List.all_eq_true.mp h (z - 37) (List.mem_range.mpr (by omega))
  rwa [show 37 + (z - 37) = z by omega] at this
theorem zcok_8 : ∀ z, 41 ≤ z → z < 47 → zCok z = true := fun z h1 h2 => by
  have h : (List.range 6).all (fun i => zCok (41 + i)) = true := by decide +kernel
  have := List.all_eq_true.mp h (z - 41) (List.mem_range.mpr (by omega))
  rwa [show 41 + (z - 41) = z by omega] at this
theorem zcok_9 : ∀ z, 47 ≤ z → z < 50 → zCok z = true := fun z h1 h2 => by
  have h : (List.range 3).all (fun i => zCok (47 + i)) = true := by decide +kernel
  have := List.all_eq_true.mp h (z - 47) (List.mem_range.mpr (by omega))
  rwa [show 47 + (z - 47) = z by omega] at this
theorem zcok_10 : ∀ z, 50 ≤ z → z < 53 → zCok z = true := fun z h1 h2 => by
  have h : (List.range 3).all (fun i => zCok (50 + i)) = true := by decide +kernel
  have := List.all_eq_true.mp h (z - 50) (List.mem_range.mpr (by omega))
  rwa [show 50 + (z - 50) = z by omega] at this
theorem zcok_11 : ∀ z, 53 ≤ z → z < 55 → zCok z = true := fun z h1 h2 => by
  have h : (List.range 2).all (fun i => zCok (53 + i)) = true := by decide +kernel
  have := List.all_eq_true.mp h (z - 53) (List.mem_range.mpr (by omega))
  rwa [show 53 + (z - 53) = z by omega] at this
theorem zcok_12 : ∀ z, 55 ≤ z → z < 58 → zCok z = true := fun z h1 h2 => by
  have h : (List.range 3).all (fun i => zCok (55 + i)) = true := by decide +kernel
  have := List.all_eq_true.mp h (z - 55) (List.mem_range.mpr (by omega))
  rwa [show 55 + (z - 55) = z by omega] at this
theorem zcok_13 : ∀ z, 58 ≤ z → z < 59 → zCok z = true := fun z h1 h2 => by
  have h : (List.range 1).all (fun i => zCok (58 + i)) = true := by decide +kernel
  have := List.all_eq_true.mp h (z - 58) (List.mem_range.mpr (by omega))
  rwa [show 58 + (z - 58) = z by omega] at this
theorem zcok_14 : ∀ z, 59 ≤ z → z < 61 → zCok z = true := fun z h1 h2 => by
  have h : (List.range 2).all (fun i => zCok (59 + i)) = true := by decide +kernel
  have := List.all_eq_true.mp h (z - 59) (List.mem_range.mpr (by omega))
  rwa [show 59 + (z - 59) = z by omega] at this
theorem zcok_15 : ∀ z, 61 ≤ z → z < 63 → zCok z = true := fun z h1 h2 => by
  have h : (List.range 2).all (fun i => zCok (61 + i)) = true := by decide +kernel
  have := List.all_eq_true.mp h (z - 61) (List.mem_range.mpr (by omega))
  rwa [show 61 + (z - 61) = z by omega] at this
