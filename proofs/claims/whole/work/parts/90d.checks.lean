theorem zcok_46 : ∀ z, 155 ≤ z → z < 156 → zCok z = true := fun z h1 h2 => by
  have e : z = 155 := by omega
  subst e
  exact (all_td 40 zb_zc_X12_init_0 (all_td 40 zb_zc_X12_init_1 (all_td 40 zb_zc_X12_init_2 (all_td 40 zb_zc_X12_init_3 (all_td 40 zb_zc_X12_init_4 (all_td 40 zb_zc_X12_init_5 (all_td 40 zb_zc_X12_init_6 (all_td 40 zb_zc_X12_init_7 (all_td 40 zb_zc_X12_init_8 (all_td 40 zb_zc_X12_init_9 (all_td 40 zb_zc_X12_init_10 (all_td 40 zb_zc_X12_init_11 zb_zc_X12_init_12))))))))))))
theorem zcok_47 : ∀ z, 156 ≤ z → z < 163 → zCok z = true := fun z h1 h2 => by
  have h : (List.range 7).all (fun i => zCok (156 + i)) = true := by decide +kernel
  have := List.all_eq_true.mp h (z - 156) (List.mem_range.mpr (by omega))
  rwa [show 156 + (z - 156) = z by omega] at this
theorem zcok_48 : ∀ z, 163 ≤ z → z < 165 → zCok z = true := fun z h1 h2 => by
  have h : (List.range 2).all (fun i => zCok (163 + i)) = true := by decide +kernel
  have := List.all_eq_true.mp h (z - 163) (List.mem_range.mpr (by omega))
  rwa [show 163 + (z - 163) = z by omega] at this
theorem zcok_49 : ∀ z, 165 ≤ z → z < 166 → zCok z = true := fun z h1 h2 => by
  have h : (List.range 1).all (fun i => zCok (165 + i)) = true := by decide +kernel
  have := List.all_eq_true.mp h (z - 165) (List.mem_range.mpr (by omega))
  rwa [show 165 + (z - 165) = z by omega] at this
theorem zcok_50 : ∀ z, 166 ≤ z → z < 170 → zCok z = true := fun z h1 h2 => by
  have h : (List.range 4).all (fun i => zCok (166 + i)) = true := by decide +kernel
  have := List.all_eq_true.mp h (z - 166) (List.mem_range.mpr (by omega))
  rwa [show 166 + (z - 166) = z by omega] at this
theorem zcok_51 : ∀ z, 170 ≤ z → z < 173 → zCok z = true := fun z h1 h2 => by
  have h : (List.range 3).all (fun i => zCok (170 + i)) = true := by decide +kernel
  have := List.all_eq_true.mp h (z - 170) (List.mem_range.mpr (by omega))
  rwa [show 170 + (z - 170) = z by omega] at this
theorem zcok_52 : ∀ z, 173 ≤ z → z < 174 → zCok z = true := fun z h1 h2 => by
  have h : (List.range 1).all (fun i => zCok (173 + i)) = true := by decide +kernel
  have := List.all_eq_true.mp h (z - 173) (List.mem_range.mpr (by omega))
  rwa [show 173 + (z - 173) = z by omega] at this
theorem zcok_53 : ∀ z, 174 ≤ z → z < 177 → zCok z = true := fun z h1 h2 => by
  have h : (List.range 3).all (fun i => zCok (174 + i)) = true := by decide +kernel
  have := List.all_eq_true.mp h (z - 174) (List.mem_range.mpr (by omega))
  rwa [show 174 + (z - 174) = z by omega] at this
theorem zcok_54 : ∀ z, 177 ≤ z → z < 178 → zCok z = true := fun z h1 h2 => by
  have h : (List.range 1).all (fun i => zCok (177 + i)) = true := by decide +kernel
  have := List.all_eq_true.mp h (z - 177) (List.mem_range.mpr (by omega))
  rwa [show 177 + (z - 177) = z by omega] at this
theorem zcok_55 : ∀ z, 178 ≤ z → z < 181 → zCok z = true := fun z h1 h2 => by
  have h : (List.range 3).all (fun i => zCok (178 + i)) = true := by decide +kernel
  have := List.all_eq_true.mp h (z - 178) (List.mem_range.mpr (by omega))
  rwa [show 178 + (z - 178) = z by omega] at this
theorem zcok_56 : ∀ z, 181 ≤ z → z < 182 → zCok z = true := fun z h1 h2 => by
  have h : (List.range 1).all (fun i => zCok (181 + i)) = true := by decide +kernel
  have := List.all_eq_true.mp h (z - 181) (List.mem_range.mpr (by omega))
  rwa [show 181 + (z - 181) = z by omega] at this
theorem zcok_57 : ∀ z, 182 ≤ z → z < 183 → zCok z = true := fun z h1 h2 => by
  have h : (List.range 1).all (fun i => zCok (182 + i)) = true := by decide +kernel
  have := List.all_eq_true.mp h (z - 182) (List.mem_range.mpr (by omega))
  rwa [show 182 + (z - 182) = z by omega] at this
theorem zcok_58 : ∀ z, 183 ≤ z → z < 184 → zCok z = true := fun z h1 h2 => by
  have h : (List.range 1).all (fun i => zCok (183 + i)) = true := by decide +kernel
  have := List.all_eq_true.mp h (z - 183) (List.mem_range.mpr (by omega))
  rwa [show 183 + (z - 183) = z by omega] at this
theorem zcok_59 : ∀ z, 184 ≤ z → z < 185 → zCok z = true := fun z h1 h2 => by
  have h : (List.range 1).all (fun i => zCok (184 + i)) = true := by decide +kernel
  have := List.all_eq_true.mp h (z - 184) (List.mem_range.mpr (by omega))
  rwa [show 184 + (z - 184) = z by omega] at this
theorem zcok_60 : ∀ z, 185 ≤ z → z < 188 → zCok z = true := fun z h1 h2 => by
  have h : (List.range 3).all (fun i => zCok (185 + i)) = true := by decide +kernel
  have := List.all_eq_true.mp h (z - 185) (List.mem_range.mpr (by omega))
  rwa [show 185 + (z - 185) = z by omega] at this
