theorem zcok_16 : ∀ z, 63 ≤ z → z < 67 → zCok z = true := fun z h1 h2 => by
  have h : (List.range 4).all (fun i => zCok (63 + i)) = true := by decide +kernel
  have := List.all_eq_true.mp h (z - 63) (List.mem_range.mpr (by omega))
  rwa [show 63 + (z - 63) = z by omega] at this
theorem zcok_17 : ∀ z, 67 ≤ z → z < 74 → zCok z = true := fun z h1 h2 => by
  have h : (List.range 7).all (fun i => zCok (67 + i)) = true := by decide +kernel
  have := List.all_eq_true.mp h (z - 67) (List.mem_range.mpr (by omega))
  rwa [show 67 + (z - 67) = z by omega] at this
theorem zcok_18 : ∀ z, 74 ≤ z → z < 75 → zCok z = true := fun z h1 h2 => by
  have h : (List.range 1).all (fun i => zCok (74 + i)) = true := by decide +kernel
  have := List.all_eq_true.mp h (z - 74) (List.mem_range.mpr (by omega))
  rwa [show 74 + (z - 74) = z by omega] at this
theorem zcok_19 : ∀ z, 75 ≤ z → z < 77 → zCok z = true := fun z h1 h2 => by
  have h : (List.range 2).all (fun i => zCok (75 + i)) = true := by decide +kernel
  have := List.all_eq_true.mp h (z - 75) (List.mem_range.mpr (by omega))
  rwa [show 75 + (z - 75) = z by omega] at this
theorem zcok_20 : ∀ z, 77 ≤ z → z < 83 → zCok z = true := fun z h1 h2 => by
  have h : (List.range 6).all (fun i => zCok (77 + i)) = true := by decide +kernel
  have := List.all_eq_true.mp h (z - 77) (List.mem_range.mpr (by omega))
  rwa [show 77 + (z - 77) = z by omega] at this
theorem zcok_21 : ∀ z, 83 ≤ z → z < 84 → zCok z = true := fun z h1 h2 => by
  have h : (List.range 1).all (fun i => zCok (83 + i)) = true := by decide +kernel
  have := List.all_eq_true.mp h (z - 83) (List.mem_range.mpr (by omega))
  rwa [show 83 + (z - 83) = z by omega] at this
theorem zcok_22 : ∀ z, 84 ≤ z → z < 85 → zCok z = true := fun z h1 h2 => by
  have h : (List.range 1).all (fun i => zCok (84 + i)) = true := by decide +kernel
  have := List.all_eq_true.mp h (z - 84) (List.mem_range.mpr (by omega))
  rwa [show 84 + (z - 84) = z by omega] at this
theorem zcok_23 : ∀ z, 85 ≤ z → z < 87 → zCok z = true := fun z h1 h2 => by
  have h : (List.range 2).all (fun i => zCok (85 + i)) = true := by decide +kernel
  have := List.all_eq_true.mp h (z - 85) (List.mem_range.mpr (by omega))
  rwa [show 85 + (z - 85) = z by omega] at this
theorem zcok_24 : ∀ z, 87 ≤ z → z < 90 → zCok z = true := fun z h1 h2 => by
  have h : (List.range 3).all (fun i => zCok (87 + i)) = true := by decide +kernel
  have := List.all_eq_true.mp h (z - 87) (List.mem_range.mpr (by omega))
  rwa [show 87 + (z - 87) = z by omega] at this
theorem zcok_25 : ∀ z, 90 ≤ z → z < 92 → zCok z = true := fun z h1 h2 => by
  have h : (List.range 2).all (fun i => zCok (90 + i)) = true := by decide +kernel
  have := List.all_eq_true.mp h (z - 90) (List.mem_range.mpr (by omega))
  rwa [show 90 + (z - 90) = z by omega] at this
theorem zcok_26 : ∀ z, 92 ≤ z → z < 94 → zCok z = true := fun z h1 h2 => by
  have h : (List.range 2).all (fun i => zCok (92 + i)) = true := by decide +kernel
  have := List.all_eq_true.mp h (z - 92) (List.mem_range.mpr (by omega))
  rwa [show 92 + (z - 92) = z by omega] at this
theorem zcok_27 : ∀ z, 94 ≤ z → z < 98 → zCok z = true := fun z h1 h2 => by
  have h : (List.range 4).all (fun i => zCok (94 + i)) = true := by decide +kernel
  have := List.all_eq_true.mp h (z - 94) (List.mem_range.mpr (by omega))
  rwa [show 94 + (z - 94) = z by omega] at this
theorem zcok_28 : ∀ z, 98 ≤ z → z < 102 → zCok z = true := fun z h1 h2 => by
  have h : (List.range 4).all (fun i => zCok (98 + i)) = true := by decide +kernel
  have := List.all_eq_true.mp h (z - 98) (List.mem_range.mpr (by omega))
  rwa [show 98 + (z - 98) = z by omega] at this
theorem zcok_29 : ∀ z, 102 ≤ z → z < 107 → zCok z = true := fun z h1 h2 => by
  have h : (List.range 5).all (fun i => zCok (102 + i)) = true := by decide +kernel
  have := List.all_eq_true.mp h (z - 102) (List.mem_range.mpr (by omega))
  rwa [show 102 + (z - 102) = z by omega] at this
theorem zcok_30 : ∀ z, 107 ≤ z → z < 111 → zCok z = true := fun z h1 h2 => by
  have h : (List.range 4).all (fun i => zCok (107 + i)) = true := by decide +kernel
  have := List.all_eq_true.mp h (z - 107) (List.mem_range.mpr (by omega))
  rwa [show 107 + (z - 107) = z by omega] at this
