theorem zcok_61 : ∀ z, 188 ≤ z → z < 189 → zCok z = true := fun z h1 h2 => by
  have h : (List.range 1).all (fun i => zCok (188 + i)) = true := by decide +kernel
  have := List.all_eq_true.mp h (z - 188) (List.mem_range.mpr (by omega))
  rwa [show 188 + (z - 188) = z by omega] at this
theorem zcok_62 : ∀ z, 189 ≤ z → z < 190 → zCok z = true := fun z h1 h2 => by
  have h : (List.range 1).all (fun i => zCok (189 + i)) = true := by decide +kernel
  have := List.all_eq_true.mp h (z - 189) (List.mem_range.mpr (by omega))
  rwa [show 189 + (z - 189) = z by omega] at this
theorem zcok_63 : ∀ z, 190 ≤ z → z < 193 → zCok z = true := fun z h1 h2 => by
  have h : (List.range 3).all (fun i => zCok (190 + i)) = true := by decide +kernel
  have := List.all_eq_true.mp h (z - 190) (List.mem_range.mpr (by omega))
  rwa [show 190 + (z - 190) = z by omega] at this
theorem zcok_64 : ∀ z, 193 ≤ z → z < 198 → zCok z = true := fun z h1 h2 => by
  have h : (List.range 5).all (fun i => zCok (193 + i)) = true := by decide +kernel
  have := List.all_eq_true.mp h (z - 193) (List.mem_range.mpr (by omega))
  rwa [show 193 + (z - 193) = z by omega] at this
theorem zcok_65 : ∀ z, 198 ≤ z → z < 199 → zCok z = true := fun z h1 h2 => by
  have h : (List.range 1).all (fun i => zCok (198 + i)) = true := by decide +kernel
  have := List.all_eq_true.mp h (z - 198) (List.mem_range.mpr (by omega))
  rwa [show 198 + (z - 198) = z by omega] at this
theorem zcok_66 : ∀ z, 199 ≤ z → z < 205 → zCok z = true := fun z h1 h2 => by
  have h : (List.range 6).all (fun i => zCok (199 + i)) = true := by decide +kernel
  have := List.all_eq_true.mp h (z - 199) (List.mem_range.mpr (by omega))
  rwa [show 199 + (z - 199) = z by omega] at this
theorem zcok_67 : ∀ z, 205 ≤ z → z < 206 → zCok z = true := fun z h1 h2 => by
  have h : (List.range 1).all (fun i => zCok (205 + i)) = true := by decide +kernel
  have := List.all_eq_true.mp h (z - 205) (List.mem_range.mpr (by omega))
  rwa [show 205 + (z - 205) = z by omega] at this
theorem zcok_68 : ∀ z, 206 ≤ z → z < 207 → zCok z = true := fun z h1 h2 => by
  have h : (List.range 1).all (fun i => zCok (206 + i)) = true := by decide +kernel
  have := List.all_eq_true.mp h (z - 206) (List.mem_range.mpr (by omega))
  rwa [show 206 + (z - 206) = z by omega] at this
theorem zcok_69 : ∀ z, 207 ≤ z → z < 211 → zCok z = true := fun z h1 h2 => by
  have h : (List.range 4).all (fun i => zCok (207 + i)) = true := by decide +kernel
  have := List.all_eq_true.mp h (z - 207) (List.mem_range.mpr (by omega))
  rwa [show 207 + (z - 207) = z by omega] at this
theorem zcok_70 : ∀ z, 211 ≤ z → z < 214 → zCok z = true := fun z h1 h2 => by
  have h : (List.range 3).all (fun i => zCok (211 + i)) = true := by decide +kernel
  have := List.all_eq_true.mp h (z - 211) (List.mem_range.mpr (by omega))
  rwa [show 211 + (z - 211) = z by omega] at this
theorem zcok_71 : ∀ z, 214 ≤ z → z < 215 → zCok z = true := fun z h1 h2 => by
  have h : (List.range 1).all (fun i => zCok (214 + i)) = true := by decide +kernel
  have := List.all_eq_true.mp h (z - 214) (List.mem_range.mpr (by omega))
  rwa [show 214 + (z - 214) = z by omega] at this
theorem zcok_72 : ∀ z, 215 ≤ z → z < 216 → zCok z = true := fun z h1 h2 => by
  have h : (List.range 1).all (fun i => zCok (215 + i)) = true := by decide +kernel
  have := List.all_eq_true.mp h (z - 215) (List.mem_range.mpr (by omega))
  rwa [show 215 + (z - 215) = z by omega] at this
theorem zcok_73 : ∀ z, 216 ≤ z → z < 218 → zCok z = true := fun z h1 h2 => by
  have h : (List.range 2).all (fun i => zCok (216 + i)) = true := by decide +kernel
  have := List.all_eq_true.mp h (z - 216) (List.mem_range.mpr (by omega))
  rwa [show 216 + (z - 216) = z by omega] at this
theorem zcok_74 : ∀ z, 218 ≤ z → z < 221 → zCok z = true := fun z h1 h2 => by
  have h : (List.range 3).all (fun i => zCok (218 + i)) = true := by decide +kernel
  have := List.all_eq_true.mp h (z - 218) (List.mem_range.mpr (by omega))
  rwa [show 218 + (z - 218) = z by omega] at this
theorem zcok_75 : ∀ z, 221 ≤ z → z < 222 → zCok z = true := fun z h1 h2 => by
  have h : (List.range 1).all (fun i => zCok (221 + i)) = true := by decide +kernel
  have := List.all_eq_true.mp h (z - 221) (List.mem_range.mpr (by omega))
  rwa [show 221 + (z - 221) = z by omega] at this
theorem zcok_76 : ∀ z, 222 ≤ z → z < 223 → zCok z = true := fun z h1 h2 => by
  have h : (List.range 1).all (fun i => zCok (222 + i)) = true := by decide +kernel
  have := List.all_eq_true.mp h (z - 222) (List.mem_range.mpr (by omega))
  rwa [show 222 + (z - 222) = z by omega] at this
theorem zcok_77 : ∀ z, 223 ≤ z → z < 226 → zCok z = true := fun z h1 h2 => by
  have h : (List.range 3).all (fun i => zCok (223 + i)) = true := by decide +kernel
  have := List.all_eq_true.mp h (z - 223) (List.mem_range.mpr (by omega))
  rwa [show 223 + (z - 223) = z by omega] at this
