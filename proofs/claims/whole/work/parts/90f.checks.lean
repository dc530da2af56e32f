theorem zcok_78 : ∀ z, 226 ≤ z → z < 227 → zCok z = true := fun z h1 h2 => by
  have h : (List.range 1).all (fun i => zCok (226 + i)) = true := by decide +kernel
  have := List.all_eq_true.mp h (z - 226) (List.mem_range.mpr (by omega))
  rwa [show 226 + (z - 226) = z by omega] at this
theorem zcok_79 : ∀ z, 227 ≤ z → z < 230 → zCok z = true := fun z h1 h2 => by
  have h : (List.range 3).all (fun i => zCok (227 + i)) = true := by decide +kernel
  have := List.all_eq_true.mp h (z - 227) (List.mem_range.mpr (by omega))
  rwa [show 227 + (z - 227) = z by omega] at this
theorem zcok_80 : ∀ z, 230 ≤ z → z < 232 → zCok z = true := fun z h1 h2 => by
  have h : (List.range 2).all (fun i => zCok (230 + i)) = true := by decide +kernel
  have := List.all_eq_true.mp h (z - 230) (List.mem_range.mpr (by omega))
  rwa [show 230 + (z - 230) = z by omega] at this
theorem zcok_81 : ∀ z, 232 ≤ z → z < 234 → zCok z = true := fun z h1 h2 => by
  have h : (List.range 2).all (fun i => zCok (232 + i)) = true := by decide +kernel
  have := List.all_eq_true.mp h (z - 232) (List.mem_range.mpr (by omega))
  rwa [show 232 + (z - 232) = z by omega] at this
theorem zcok_82 : ∀ z, 234 ≤ z → z < 236 → zCok z = true := fun z h1 h2 => by
  have h : (List.range 2).all (fun i => zCok (234 + i)) = true := by decide +kernel
  have := List.all_eq_true.mp h (z - 234) (List.mem_range.mpr (by omega))
  rwa [show 234 + (z - 234) = z by omega] at this
theorem zcok_83 : ∀ z, 236 ≤ z → z < 238 → zCok z = true := fun z h1 h2 => by
  have h : (List.range 2).all (fun i => zCok (236 + i)) = true := by decide +kernel
  have := List.all_eq_true.mp h (z - 236) (List.mem_range.mpr (by omega))
  rwa [show 236 + (z - 236) = z by omega] at this
theorem zcok_84 : ∀ z, 238 ≤ z → z < 241 → zCok z = true := fun z h1 h2 => by
  have h : (List.range 3).all (fun i => zCok (238 + i)) = true := by decide +kernel
  have := List.all_eq_true.mp h (z - 238) (List.mem_range.mpr (by omega))
  rwa [show 238 + (z - 238) = z by omega] at this
theorem zcok_85 : ∀ z, 241 ≤ z → z < 242 → zCok z = true := fun z h1 h2 => by
  have h : (List.range 1).all (fun i => zCok (241 + i)) = true := by decide +kernel
  have := List.all_eq_true.mp h (z - 241) (List.mem_range.mpr (by omega))
  rwa [show 241 + (z - 241) = z by omega] at this
theorem zcok_86 : ∀ z, 242 ≤ z → z < 244 → zCok z = true := fun z h1 h2 => by
  have h : (List.range 2).all (fun i => zCok (242 + i)) = true := by decide +kernel
  have := List.all_eq_true.mp h (z - 242) (List.mem_range.mpr (by omega))
  rwa [show 242 + (z - 242) = z by omega] at this
theorem zcok_87 : ∀ z, 244 ≤ z → z < 245 → zCok z = true := fun z h1 h2 => by
  have h : (List.range 1).all (fun i => zCok (244 + i)) = true := by decide +kernel
  have := List.all_eq_true.mp h (z - 244) (List.mem_range.mpr (by omega))
  rwa [show 244 + (z - 244) = z by omega] at this
theorem zcok_88 : ∀ z, 245 ≤ z → z < 246 → zCok z = true := fun z h1 h2 => by
  have h : (List.range 1).all (fun i => zCok (245 + i)) = true := by decide +kernel
  have := List.all_eq_true.mp h (z - 245) (List.mem_range.mpr (by omega))
  rwa [show 245 + (z - 245) = z by omega] at this
theorem zcok_89 : ∀ z, 246 ≤ z → z < 247 → zCok z = true := fun z h1 h2 => by
  have h : (List.range 1).all (fun i => zCok (246 + i)) = true := by decide +kernel
  have := List.all_eq_true.mp h (z - 246) (List.mem_range.mpr (by omega))
  rwa [show 246 + (z - 246) = z by omega] at this
theorem zcok_90 : ∀ z, 247 ≤ z → z < 249 → zCok z = true := fun z h1 h2 => by
  have h : (List.range 2).all (fun i => zCok (247 + i)) = true := by decide +kernel
  have := List.all_eq_true.mp h (z - 247) (List.mem_range.mpr (by omega))
  rwa [show 247 + (z - 247) = z by omega] at this
theorem zcok_91 : ∀ z, 249 ≤ z → z < 253 → zCok z = true := fun z h1 h2 => by
  have h : (List.range 4).all (fun i => zCok (249 + i)) = true := by decide +kernel
  have := List.all_eq_true.mp h (z - 249) (List.mem_range.mpr (by omega))
  rwa [show 249 + (z - 249) = z by omega] at this
theorem zcok_92 : ∀ z, 253 ≤ z → z < 255 → zCok z = true := fun z h1 h2 => by
  have h : (List.range 2).all (fun i => zCok (253 + i)) = true := by decide +kernel
  have := List.all_eq_true.mp h (z - 253) (List.mem_range.mpr (by omega))
  rwa [show 253 + (z - 253) = z by omega] at this
theorem zcok_93 : ∀ z, 255 ≤ z → z < 258 → zCok z = true := fun z h1 h2 => by
  have h : (List.range 3).all (fun i => zCok (255 + i)) = true := by decide +kernel
  have := List.all_eq_true.mp h (z - 255) (List.mem_range.mpr (by omega))
  rwa [show 255 + (z - 255) = z by omega] at this
theorem zcok_94 : ∀ z, 258 ≤ z → z < 261 → zCok z = true := fun z h1 h2 => by
  have h : (List.range 3).all (fun i => zCok (258 + i)) = true := by decide +kernel
  have := List.all_eq_true.mp h (z - 258) (List.mem_range.mpr (by omega))
  rwa [show 258 + (z - 258) = z by omega] at this
theorem zcok_95 : ∀ z, 261 ≤ z → z < 265 → zCok z = true := fun z h1 h2 => by
  have h : (List.range 4).all (fun i => zCok (261 + i)) = true := by decide +kernel
  have := List.all_eq_true.mp h (z - 261) (List.mem_range.mpr (by omega))
  rwa [show 261 + (z - 261) = z by omega] at this
theorem zcok_96 : ∀ z, 265 ≤ z → z < 274 → zCok z = true := fun z h1 h2 => by
  have h : (List.range 9).all (fun i => zCok (265 + i)) = true := by decide +kernel
  have := List.all_eq_true.mp h (z - 265) (List.mem_range.mpr (by omega))
  rwa [show 265 + (z - 265) = z by omega] at this
theorem zcok_97 : ∀ z, 274 ≤ z → z < 278 → zCok z = true := fun z h1 h2 => by
  have h : (List.range 4).all (fun i => zCok (274 + i)) = true := by decide +kernel
  have := List.all_eq_true.mp h (z - 274) (List.mem_range.mpr (by omega))
  rwa [show 274 + (z - 274) = z by omega] at this
