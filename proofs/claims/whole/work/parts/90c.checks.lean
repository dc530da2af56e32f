theorem zcok_31 : ∀ z, 111 ≤ z → z < 113 → zCok z = true := fun z h1 h2 => by
  have h : (List.range 2).all (fun i => zCok (111 + i)) = true := by decide +kernel
  have := List.all_eq_true.mp h (z - 111) (List.mem_range.mpr (by omega))
  rwa [show 111 + (z - 111) = z by omega] at this
theorem zcok_32 : ∀ z, 113 ≤ z → z < 119 → zCok z = true := fun z h1 h2 => by
  have h : (List.range 6).all (fun i => zCok (113 + i)) = true := by decide +kernel
  have := List.all_eq_true.mp h (z - 113) (List.mem_range.mpr (by omega))
  rwa [show 113 + (z - 113) = z by omega] at this
theorem zcok_33 : ∀ z, 119 ≤ z → z < 121 → zCok z = true := fun z h1 h2 => by
  have h : (List.range 2).all (fun i => zCok (119 + i)) = true := by decide +kernel
  have := List.all_eq_true.mp h (z - 119) (List.mem_range.mpr (by omega))
  rwa [show 119 + (z - 119) = z by omega] at this
theorem zcok_34 : ∀ z, 121 ≤ z → z < 122 → zCok z = true := fun z h1 h2 => by
  have h : (List.range 1).all (fun i => zCok (121 + i)) = true := by decide +kernel
  have := List.all_eq_true.mp h (z - 121) (List.mem_range.mpr (by omega))
  rwa [show 121 + (z - 121) = z by omega] at this
theorem zcok_35 : ∀ z, 122 ≤ z → z < 124 → zCok z = true := fun z h1 h2 => by
  have h : (List.range 2).all (fun i => zCok (122 + i)) = true := by decide +kernel
  have := List.all_eq_true.mp h (z - 122) (List.mem_range.mpr (by omega))
  rwa [show 122 + (z - 122) = z by omega] at this
theorem zcok_36 : ∀ z, 124 ≤ z → z < 127 → zCok z = true := fun z h1 h2 => by
  have h : (List.range 3).all (fun i => zCok (124 + i)) = true := by decide +kernel
  have := List.all_eq_true.mp h (z - 124) (List.mem_range.mpr (by omega))
  rwa [show 124 + (z - 124) = z by omega] at this
theorem zcok_37 : ∀ z, 127 ≤ z → z < 129 → zCok z = true := fun z h1 h2 => by
  have h : (List.range 2).all (fun i => zCok (127 + i)) = true := by decide +kernel
  have := List.all_eq_true.mp h (z - 127) (List.mem_range.mpr (by omega))
  rwa [show 127 + (z - 127) = z by omega] at this
theorem zcok_38 : ∀ z, 129 ≤ z → z < 132 → zCok z = true := fun z h1 h2 => by
  have h : (List.range 3).all (fun i => zCok (129 + i)) = true := by decide +kernel
  have := List.all_eq_true.mp h (z - 129) (List.mem_range.mpr (by omega))
  rwa [show 129 + (z - 129) = z by omega] at this
theorem zcok_39 : ∀ z, 132 ≤ z → z < 135 → zCok z = true := fun z h1 h2 => by
  have h : (List.range 3).all (fun i => zCok (132 + i)) = true := by decide +kernel
  have := List.all_eq_true.mp h (z - 132) (List.mem_range.mpr (by omega))
  rwa [show 132 + (z - 132) = z by omega] at this
theorem zcok_40 : ∀ z, 135 ≤ z → z < 138 → zCok z = true := fun z h1 h2 => by
  have h : (List.range 3).all (fun i => zCok (135 + i)) = true := by decide +kernel
  have := List.all_eq_true.mp h (z - 135) (List.mem_range.mpr (by omega))
  rwa [show 135 + (z - 135) = z by omega] at this
theorem zcok_41 : ∀ z, 138 ≤ z → z < 141 → zCok z = true := fun z h1 h2 => by
  have h : (List.range 3).all (fun i => zCok (138 + i)) = true := by decide +kernel
  have := List.all_eq_true.mp h (z - 138) (List.mem_range.mpr (by omega))
  rwa [show 138 + (z - 138) = z by omega] at this
theorem zcok_42 : ∀ z, 141 ≤ z → z < 144 → zCok z = true := fun z h1 h2 => by
  have h : (List.range 3).all (fun i => zCok (141 + i)) = true := by decide +kernel
  have := List.all_eq_true.mp h (z - 141) (List.mem_range.mpr (by omega))
  rwa [show 141 + (z - 141) = z by omega] at this
theorem zcok_43 : ∀ z, 144 ≤ z → z < 147 → zCok z = true := fun z h1 h2 => by
  have h : (List.range 3).all (fun i => zCok (144 + i)) = true := by decide +kernel
  have := List.all_eq_true.mp h (z - 144) (List.mem_range.mpr (by omega))
  rwa [show 144 + (z - 144) = z by omega] at this
theorem zcok_44 : ∀ z, 147 ≤ z → z < 151 → zCok z = true := fun z h1 h2 => by
  have h : (List.range 4).all (fun i => zCok (147 + i)) = true := by decide +kernel
  have := List.all_eq_true.mp h (z - 147) (List.mem_range.mpr (by omega))
  rwa [show 147 + (z - 147) = z by omega] at this
theorem zcok_45 : ∀ z, 151 ≤ z → z < 155 → zCok z = true := fun z h1 h2 => by
  have h : (List.range 4).all (fun i => zCok (151 + i)) = true := by decide +kernel
  have := List.all_eq_true.mp h (z - 151) (List.mem_range.mpr (by omega))
  rwa [show 151 + (z - 151) = z by omega] at this
theorem zb_zc_X12_init_0 : ((zc_X12_init).take 40).all (fun e => zOk (zinf 155).1.cls (zinf 155).2.1 (zinf 155).2.2.1 (zinf 155).2.2.2 (decide ((zinf 155).1.name = "<init>")) e) = true := by decide +kernel
theorem zb_zc_X12_init_1 : (((zc_X12_init).drop 40).take 40).all (fun e => zOk (zinf 155).1.cls (zinf 155).2.1 (zinf 155).2.2.1 (zinf 155).2.2.2 (decide ((zinf 155).1.name = "<init>")) e) = true := by decide +kernel
theorem zb_zc_X12_init_2 : ((((zc_X12_init).drop 40).drop 40).take 40).all (fun e => zOk (zinf 155).1.cls (zinf 155).2.1 (zinf 155).2.2.1 (zinf 155).2.2.2 (decide ((zinf 155).1.name = "<init>")) e) = true := by decide +kernel
theorem zb_zc_X12_init_3 : (((((zc_X12_init).drop 40).drop 40).drop 40).take 40).all (fun e => zOk (zinf 155).1.cls (zinf 155).2.1 (zinf 155).2.2.1 (zinf 155).2.2.2 (decide ((zinf 155).1.name = "<init>")) e) = true := by decide +kernel
theorem zb_zc_X12_init_4 : ((((((zc_X12_init).drop 40).drop 40).drop 40).drop 40).take 40).all (fun e => zOk (zinf 155).1.cls (zinf 155).2.1 (zinf 155).2.2.1 (zinf 155).2.2.2 (decide ((zinf 155).1.name = "<init>")) e) = true := by decide +kernel
theorem zb_zc_X12_init_5 : (((((((zc_X12_init).drop 40).drop 40).drop 40).drop 40).drop 40).take 40).all (fun e => zOk (zinf 155).1.cls (zinf 155).2.1 (zinf 155).2.2.1 (zinf 155).2.2.2 (decide ((zinf 155).1.name = "<init>")) e) = true := by decide +kernel
theorem zb_zc_X12_init_6 : ((((((((zc_X12_init).drop 40).drop 40).drop 40).drop 40).drop 40).drop 40).take 40).all (fun e => zOk (zinf 155).1.cls (zinf 155).2.1 (zinf 155).2.2.1 (zinf 155).2.2.2 (decide ((zinf 155).1.name = "<init>")) e) = true := by decide +kernel
theorem zb_zc_X12_init_7 : (((((((((zc_X12_init).drop 40).drop 40).drop 40).drop 40).drop 40).drop 40).drop 40).take 40).all (fun e => zOk (zinf 155).1.cls (zinf 155).2.1 (zinf 155).2.2.1 (zinf 155).2.2.2 (decide ((zinf 155).1.name = "<init>")) e) = true := by decide +kernel
theorem zb_zc_X12_init_8 : ((((((((((zc_X12_init).drop 40).drop 40).drop 40).drop 40).drop 40).drop 40).drop 40).drop 40).take 40).all (fun e => zOk (zinf 155).1.cls (zinf 155).2.1 (zinf 155).2.2.1 (zinf 155).2.2.2 (decide ((zinf 155).1.name = "<init>")) e) = true := by decide +kernel
theorem zb_zc_X12_init_9 : (((((((((((zc_X12_init).drop 40).drop 40).drop 40).drop 40).drop 40).drop 40).drop 40).drop 40).drop 40).take 40).all (fun e => zOk (zinf 155).1.cls (zinf 155).2.1 (zinf 155).2.2.1 (zinf 155).2.2.2 (decide ((zinf 155).1.name = "<init>")) e) = true := by decide +kernel
theorem zb_zc_X12_init_10 : ((((((((((((zc_X12_init).drop 40).drop 40).drop 40).drop 40).drop 40).drop 40).drop 40).drop 40).drop 40).drop 40).take 40).all (fun e => zOk (zinf 155).1.cls (zinf 155).2.1 (zinf 155).2.2.1 (zinf 155).2.2.2 (decide ((zinf 155).1.name = "<init>")) e) = true := by decide +kernel
theorem zb_zc_X12_init_11 : (((((((((((((zc_X12_init).drop 40).drop 40).drop 40).drop 40).drop 40).drop 40).drop 40).drop 40).drop 40).drop 40).drop 40).take 40).all (fun e => zOk (zinf 155).1.cls (zinf 155).2.1 (zinf 155).2.2.1 (zinf 155).2.2.2 (decide ((zinf 155).1.name = "<init>")) e) = true := by decide +kernel
theorem zb_zc_X12_init_12 : (((((((((((((zc_X12_init).drop 40).drop 40).drop 40).drop 40).drop 40).drop 40).drop 40).drop 40).drop 40).drop 40).drop 40).drop 40).all (fun e => zOk (zinf 155).1.cls (zinf 155).2.1 (zinf 155).2.2.1 (zinf 155).2.2.2 (decide ((zinf 155).1.name = "<init>")) e) = true := by decide +kernel
