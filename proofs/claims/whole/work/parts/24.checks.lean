/-! the tables are checked, method by method -/
theorem zmok_all0 : (List.range 278).all zMok = true := by decide +kernel
theorem zmok_all : ∀ z, z < 278 → zMok z = true := fun z h => List.all_eq_true.mp zmok_all0 z (List.mem_range.mpr h)
theorem all_td {f : zE → Bool} {l : List zE} (n : Nat) (h1 : (l.take n).all f = true) (h2 : (l.drop n).all f = true) : l.all f = true := by
  rw [← List.take_append_drop n l, List.all_append, h1, h2]
  rfl
theorem zcok_0 : ∀ z, 0 ≤ z → z < 7 → zCok z = true := fun z h1 h2 => by
  have h : (List.range 7).all (fun i => zCok (0 + i)) = true := by decide +kernel
  have := List.all_eq_true.mp h (z - 0) (List.mem_range.mpr (by omega))
  rwa [show 0 + (z - 0) = z by omega] at this
theorem zcok_1 : ∀ z, 7 ≤ z → z < 11 → zCok z = true := fun z h1 h2 => by
  have h : (List.range 4).all (fun i => zCok (7 + i)) = true := by decide +kernel
  have := List.all_eq_true.mp h (z - 7) (List.mem_range.mpr (by omega))
  rwa [show 7 + (z - 7) = z by omega] at this
theorem zcok_2 : ∀ z, 11 ≤ z → z < 19 → zCok z = true := fun z h1 h2 => by
  have h : (List.range 8).all (fun i => zCok (11 + i)) = true := by decide +kernel
  have := List.all_eq_true.mp h (z - 11) (List.mem_range.mpr (by omega))
  rwa [show 11 + (z - 11) = z by omega] at this
theorem zcok_3 : ∀ z, 19 ≤ z → z < 25 → zCok z = true := fun z h1 h2 => by
  have h : (List.range 6).all (fun i => zCok (19 + i)) = true := by decide +kernel
  have := List.all_eq_true.mp h (z - 19) (List.mem_range.mpr (by omega))
  rwa [show 19 + (z - 19) = z by omega] at this
theorem zcok_4 : ∀ z, 25 ≤ z → z < 30 → zCok z = true := fun z h1 h2 => by
  have h : (List.range 5).all (fun i => zCok (25 + i)) = true := by decide +kernel
  have := List.all_eq_true.mp h (z - 25) (List.mem_range.mpr (by omega))
  rwa [show 25 + (z - 25) = z by omega] at this
theorem zcok_5 : ∀ z, 30 ≤ z → z < 34 → zCok z = true := fun z h1 h2 => by
  have h : (List.range 4).all (fun i => zCok (30 + i)) = true := by decide +kernel
  have := List.all_eq_true.mp h (z - 30) (List.mem_range.mpr (by omega))
  rwa [show 30 + (z - 30) = z by omega] at this
theorem zcok_6 : ∀ z, 34 ≤ z → z < 37 → zCok z = true := fun z h1 h2 => by
  have h : (List.range 3).all (fun i => zCok (34 + i)) = true := by decide +kernel
  have := List.all_eq_true.mp h (z - 34) (List.mem_range.mpr (by omega))
  rwa [show 34 + (z - 34) = z by omega] at this
theorem zcok_7 : ∀ z, 37 ≤ z → z < 41 → zCok z = true := fun z h1 h2 => by
  have h : (List.range 4).all (fun i => zCok (37 + i)) = true := by decide +kernel
  have := List.all_eq_true.mp h (z - 37) (List.mem_range.mpr (by omega))
  rwa [show 37 + (z - 37) = z by omega] at this
theorem zcok_8 : ∀ z, 41 ≤ z → z < 47 → zCok z = true := fun z h1 h2 => by
  have h : (List.range 6).all (fun i => zCok (41 + i)) = true := by decide +kernel
  have := List.all_eq_true.mp h (z - 41) (List.mem_range.mpr (by omega))
  rwa [show 41 + (z - 41) = z by omega] at this
theorem zcok_9 : ∀ z, 47 ≤ z → z < 50 → zCok z = true := fun z h1 h2 => by
  have h : (List.range 3).all (fun i => zCok (47 + i)) = true := by decide +kernel
  have := List.all_eq_true.mp h (z - 47) (List.mem_range.mpr (by omega))
  rwa [show 47 + (z - 47) = z by omega] at this
theorem zcok_10 : ∀ z, 50 ≤ z → z < 53 → zCok z = true := fun z h1 h2 => by
  have h : (List.range 3).all (fun i => zCok (50 + i)) = true := by decide +kernel
  have := List.all_eq_true.mp h (z - 50) (List.mem_range.mpr (by omega))
  rwa [show 50 + (z - 50) = z by omega] at this
theorem zcok_11 : ∀ z, 53 ≤ z → z < 55 → zCok z = true := fun z h1 h2 => by
  have h : (List.range 2).all (fun i => zCok (53 + i)) = true := by decide +kernel
  have := List.all_eq_true.mp h (z - 53) (List.mem_range.mpr (by omega))
  rwa [show 53 + (z - 53) = z by omega] at this
theorem zcok_12 : ∀ z, 55 ≤ z → z < 58 → zCok z = true := fun z h1 h2 => by
  have h : (List.range 3).all (fun i => zCok (55 + i)) = true := by decide +kernel
  have := List.all_eq_true.mp h (z - 55) (List.mem_range.mpr (by omega))
  rwa [show 55 + (z - 55) = z by omega] at this
theorem zcok_13 : ∀ z, 58 ≤ z → z < 59 → zCok z = true := fun z h1 h2 => by
  have h : (List.range 1).all (fun i => zCok (58 + i)) = true := by decide +kernel
  have := List.all_eq_true.mp h (z - 58) (List.mem_range.mpr (by omega))
  rwa [show 58 + (z - 58) = z by omega] at this
theorem zcok_14 : ∀ z, 59 ≤ z → z < 61 → zCok z = true := fun z h1 h2 => by
  have h : (List.range 2).all (fun i => zCok (59 + i)) = true := by decide +kernel
  have := List.all_eq_true.mp h (z - 59) (List.mem_range.mpr (by omega))
  rwa [show 59 + (z - 59) = z by omega] at this
theorem zcok_15 : ∀ z, 61 ≤ z → z < 63 → zCok z = true := fun z h1 h2 => by
  have h : (List.range 2).all (fun i => zCok (61 + i)) = true := by decide +kernel
  have := List.all_eq_true.mp h (z - 61) (List.mem_range.mpr (by omega))
  rwa [show 61 + (z - 61) = z by omega] at this
theorem zcok_16 : ∀ z, 63 ≤ z → z < 67 → zCok z = true := fun z h1 h2 => by
  have h : (List.range 4).all (fun i => zCok (63 + i)) = true := by decide +kernel
  have := List.all_eq_true.mp h (z - 63) (List.mem_range.mpr (by omega))
  rwa [show 63 + (z - 63) = z by omega] at this
theorem zcok_17 : ∀ z, 67 ≤ z → z < 74 → zCok z = true := fun z h1 h2 => by
  have h : (List.range 7).all (fun i => zCok (67 + i)) = true := by decide +kernel
  have := List.all_eq_true.mp h (z - 67) (List.mem_range.mpr (by omega))
  rwa [show 67 + (z - 67) = z by omega] at this
theorem zcok_18 : ∀ z, 74 ≤ z → z < 75 → zCok z = true := fun z h1 h2 => by
  have h : (List.range 1).all (fun i => zCok (74 + i)) = true := by decide +kernel
  have := List.all_eq_true.mp h (z - 74) (List.mem_range.mpr (by omega))
  rwa [show 74 + (z - 74) = z by omega] at this
theorem zcok_19 : ∀ z, 75 ≤ z → z < 77 → zCok z = true := fun z h1 h2 => by
  have h : (List.range 2).all (fun i => zCok (75 + i)) = true := by decide +kernel
  have := List.all_eq_true.mp h (z - 75) (List.mem_range.mpr (by omega))
  rwa [show 75 + (z - 75) = z by omega] at this
theorem zcok_20 : ∀ z, 77 ≤ z → z < 83 → zCok z = true := fun z h1 h2 => by
  have h : (List.range 6).all (fun i => zCok (77 + i)) = true := by decide +kernel
  have := List.all_eq_true.mp h (z - 77) (List.mem_range.mpr (by omega))
  rwa [show 77 + (z - 77) = z by omega] at this
theorem zcok_21 : ∀ z, 83 ≤ z → z < 84 → zCok z = true := fun z h1 h2 => by
  have h : (List.range 1).all (fun i => zCok (83 + i)) = true := by decide +kernel
  have := List.all_eq_true.mp h (z - 83) (List.mem_range.mpr (by omega))
  rwa [show 83 + (z - 83) = z by omega] at this
theorem zcok_22 : ∀ z, 84 ≤ z → z < 85 → zCok z = true := fun z h1 h2 => by
  have h : (List.range 1).all (fun i => zCok (84 + i)) = true := by decide +kernel
  have := List.all_eq_true.mp h (z - 84) (List.mem_range.mpr (by omega))
  rwa [show 84 + (z - 84) = z by omega] at this
theorem zcok_23 : ∀ z, 85 ≤ z → z < 87 → zCok z = true := fun z h1 h2 => by
  have h : (List.range 2).all (fun i => zCok (85 + i)) = true := by decide +kernel
  have := List.all_eq_true.mp h (z - 85) (List.mem_range.mpr (by omega))
  rwa [show 85 + (z - 85) = z by omega] at this
theorem zcok_24 : ∀ z, 87 ≤ z → z < 90 → zCok z = true := fun z h1 h2 => by
  have h : (List.range 3).all (fun i => zCok (87 + i)) = true := by decide +kernel
  have := List.all_eq_true.mp h (z - 87) (List.mem_range.mpr (by omega))
  rwa [show 87 + (z - 87) = z by omega] at this
theorem zcok_25 : ∀ z, 90 ≤ z → z < 92 → zCok z = true := fun z h1 h2 => by
  have h : (List.range 2).all (fun i => zCok (90 + i)) = true := by decide +kernel
  have := List.all_eq_true.mp h (z - 90) (List.mem_range.mpr (by omega))
  rwa [show 90 + (z - 90) = z by omega] at this
theorem zcok_26 : ∀ z, 92 ≤ z → z < 94 → zCok z = true := fun z h1 h2 => by
  have h : (List.range 2).all (fun i => zCok (92 + i)) = true := by decide +kernel
  have := List.all_eq_true.mp h (z - 92) (List.mem_range.mpr (by omega))
  rwa [show 92 + (z - 92) = z by omega] at this
theorem zcok_27 : ∀ z, 94 ≤ z → z < 98 → zCok z = true := fun z h1 h2 => by
  have h : (List.range 4).all (fun i => zCok (94 + i)) = true := by decide +kernel
  have := List.all_eq_true.mp h (z - 94) (List.mem_range.mpr (by omega))
  rwa [show 94 + (z - 94) = z by omega] at this
theorem zcok_28 : ∀ z, 98 ≤ z → z < 102 → zCok z = true := fun z h1 h2 => by
  have h : (List.range 4).all (fun i => zCok (98 + i)) = true := by decide +kernel
  have := List.all_eq_true.mp h (z - 98) (List.mem_range.mpr (by omega))
  rwa [show 98 + (z - 98) = z by omega] at this
theorem zcok_29 : ∀ z, 102 ≤ z → z < 107 → zCok z = true := fun z h1 h2 => by
  have h : (List.range 5).all (fun i => zCok (102 + i)) = true := by decide +kernel
  have := List.all_eq_true.mp h (z - 102) (List.mem_range.mpr (by omega))
  rwa [show 102 + (z - 102) = z by omega] at this
theorem zcok_30 : ∀ z, 107 ≤ z → z < 111 → zCok z = true := fun z h1 h2 => by
  have h : (List.range 4).all (fun i => zCok (107 + i)) = true := by decide +kernel
  have := List.all_eq_true.mp h (z - 107) (List.mem_range.mpr (by omega))
  rwa [show 107 + (z - 107) = z by omega] at this
theorem zcok_31 : ∀ z, 111 ≤ z → z < 113 → zCok z = true := fun z h1 h2 => by
  have h : (List.range 2).all (fun i => zCok (111 + i)) = true := by decide +kernel
  have := List.all_eq_true.mp h (z - 111) (List.mem_range.mpr (by omega))
  rwa [show 111 + (z - 111) = z by omega] at this
theorem zcok_32 : ∀ z, 113 ≤ z → z < 119 → zCok z = true := fun z h1 h2 => by
  have h : (List.range 6).all (fun i => zCok (113 + i)) = true := by decide +kernel
  have := List.all_eq_true.mp h (z - 113) (List.mem_range.mpr (by omega))
  rwa [show 113 + (z - 113) = z by omega] at this
theorem zcok_33 : ∀ z, 119 ≤ z → z < 121 → zCok z = true := fun z h1 h2 => by
  have h : (List.range 2).all (fun i => zCok (119 + i)) = true := by decide +kernel
  have := List.all_eq_true.mp h (z - 119) (List.mem_range.mpr (by omega))
  rwa [show 119 + (z - 119) = z by omega] at this
theorem zcok_34 : ∀ z, 121 ≤ z → z < 122 → zCok z = true := fun z h1 h2 => by
  have h : (List.range 1).all (fun i => zCok (121 + i)) = true := by decide +kernel
  have := List.all_eq_true.mp h (z - 121) (List.mem_range.mpr (by omega))
  rwa [show 121 + (z - 121) = z by omega] at this
theorem zcok_35 : ∀ z, 122 ≤ z → z < 124 → zCok z = true := fun z h1 h2 => by
  have h : (List.range 2).all (fun i => zCok (122 + i)) = true := by decide +kernel
  have := List.all_eq_true.mp h (z - 122) (List.mem_range.mpr (by omega))
  rwa [show 122 + (z - 122) = z by omega] at this
theorem zcok_36 : ∀ z, 124 ≤ z → z < 127 → zCok z = true := fun z h1 h2 => by
  have h : (List.range 3).all (fun i => zCok (124 + i)) = true := by decide +kernel
  have := List.all_eq_true.mp h (z - 124) (List.mem_range.mpr (by omega))
  rwa [show 124 + (z - 124) = z by omega] at this
theorem zcok_37 : ∀ z, 127 ≤ z → z < 129 → zCok z = true := fun z h1 h2 => by
  have h : (List.range 2).all (fun i => zCok (127 + i)) = true := by decide +kernel
  have := List.all_eq_true.mp h (z - 127) (List.mem_range.mpr (by omega))
  rwa [show 127 + (z - 127) = z by omega] at this
theorem zcok_38 : ∀ z, 129 ≤ z → z < 132 → zCok z = true := fun z h1 h2 => by
  have h : (List.range 3).all (fun i => zCok (129 + i)) = true := by decide +kernel
  have := List.all_eq_true.mp h (z - 129) (List.mem_range.mpr (by omega))
  rwa [show 129 + (z - 129) = z by omega] at this
theorem zcok_39 : ∀ z, 132 ≤ z → z < 135 → zCok z = true := fun z h1 h2 => by
  have h : (List.range 3).all (fun i => zCok (132 + i)) = true := by decide +kernel
  have := List.all_eq_true.mp h (z - 132) (List.mem_range.mpr (by omega))
  rwa [show 132 + (z - 132) = z by omega] at this
theorem zcok_40 : ∀ z, 135 ≤ z → z < 138 → zCok z = true := fun z h1 h2 => by
  have h : (List.range 3).all (fun i => zCok (135 + i)) = true := by decide +kernel
  have := List.all_eq_true.mp h (z - 135) (List.mem_range.mpr (by omega))
  rwa [show 135 + (z - 135) = z by omega] at this
theorem zcok_41 : ∀ z, 138 ≤ z → z < 141 → zCok z = true := fun z h1 h2 => by
  have h : (List.range 3).all (fun i => zCok (138 + i)) = true := by decide +kernel
  have := List.all_eq_true.mp h (z - 138) (List.mem_range.mpr (by omega))
  rwa [show 138 + (z - 138) = z by omega] at this
theorem zcok_42 : ∀ z, 141 ≤ z → z < 144 → zCok z = true := fun z h1 h2 => by
  have h : (List.range 3).all (fun i => zCok (141 + i)) = true := by decide +kernel
  have := List.all_eq_true.mp h (z - 141) (List.mem_range.mpr (by omega))
  rwa [show 141 + (z - 141) = z by omega] at this
theorem zcok_43 : ∀ z, 144 ≤ z → z < 147 → zCok z = true := fun z h1 h2 => by
  have h : (List.range 3).all (fun i => zCok (144 + i)) = true := by decide +kernel
  have := List.all_eq_true.mp h (z - 144) (List.mem_range.mpr (by omega))
  rwa [show 144 + (z - 144) = z by omega] at this
theorem zcok_44 : ∀ z, 147 ≤ z → z < 151 → zCok z = true := fun z h1 h2 => by
  have h : (List.range 4).all (fun i => zCok (147 + i)) = true := by decide +kernel
  have := List.all_eq_true.mp h (z - 147) (List.mem_range.mpr (by omega))
  rwa [show 147 + (z - 147) = z by omega] at this
theorem zcok_45 : ∀ z, 151 ≤ z → z < 155 → zCok z = true := fun z h1 h2 => by
  have h : (List.range 4).all (fun i => zCok (151 + i)) = true := by decide +kernel
  have := List.all_eq_true.mp h (z - 151) (List.mem_range.mpr (by omega))
  rwa [show 151 + (z - 151) = z by omega] at this
theorem zb_zc_X12_init_0 : ((zc_X12_init).take 40).all (fun e => zOk (zinf 155).1.cls (zinf 155).2.1 (zinf 155).2.2.1 (zinf 155).2.2.2 (decide ((zinf 155).1.name = "<init>")) e) = true := by decide +kernel
theorem zb_zc_X12_init_1 : (((zc_X12_init).drop 40).take 40).all (fun e => zOk (zinf 155).1.cls (zinf 155).2.1 (zinf 155).2.2.1 (zinf 155).2.2.2 (decide ((zinf 155).1.name = "<init>")) e) = true := by decide +kernel
theorem zb_zc_X12_init_2 : ((((zc_X12_init).drop 40).drop 40).take 40).all (fun e => zOk (zinf 155).1.cls (zinf 155).2.1 (zinf 155).2.2.1 (zinf 155).2.2.2 (decide ((zinf 155).1.name = "<init>")) e) = true := by decide +kernel
theorem zb_zc_X12_init_3 : (((((zc_X12_init).drop 40).drop 40).drop 40).take 40).all (fun e => zOk (zinf 155).1.cls (zinf 155).2.1 (zinf 155).2.2.1 (zinf 155).2.2.2 (decide ((zinf 155).1.name = "<init>")) e) = true := by decide +kernel
theorem zb_zc_X12_init_4 : ((((((zc_X12_init).drop 40).drop 40).drop 40).drop 40).take 40).all (fun e => zOk (zinf 155).1.cls (zinf 155).2.1 (zinf 155).2.2.1 (zinf 155).2.2.2 (decide ((zinf 155).1.name = "<init>")) e) = true := by decide +kernel
theorem zb_zc_X12_init_5 : (((((((zc_X12_init).drop 40).drop 40).drop 40).drop 40).drop 40).take 40).all (fun e => zOk (zinf 155).1.cls (zinf 155).2.1 (zinf 155).2.2.1 (zinf 155).2.2.2 (decide ((zinf 155).1.name = "<init>")) e) = true := by decide +kernel
theorem zb_zc_X12_init_6 : ((((((((zc_X12_init).drop 40).drop 40).drop 40).drop 40).drop 40).drop 40).take 40).all (fun e => zOk (zinf 155).1.cls (zinf 155).2.1 (zinf 155).2.2.1 (zinf 155).2.2.2 (decide ((zinf 155).1.name = "<init>")) e) = true := by decide +kernel
theorem zb_zc_X12_init_7 : (((((((((zc_X12_init).drop 40).drop 40).drop 40).drop 40).drop 40).drop 40).drop 40).take 40).all (fun e => zOk (zinf 155).1.cls (zinf 155).2.1 (zinf 155).2.2.1 (zinf 155).2.2.2 (decide ((zinf 155).1.name = "<init>")) e) = true := by decide +kernel
theorem zb_zc_X12_init_8 : ((((((((((zc_X12_init).drop 40).drop 40).drop 40).drop 40).drop 40).drop 40).drop 40).drop 40).take 40).all (fun e => zOk (zinf 155).1.cls (zinf 155).2.1 (zinf 155).2.2.1 (zinf 155).2.2.2 (decide ((zinf 155).1.name = "<init>")) e) = true := by decide +kernel
theorem zb_zc_X12_init_9 : (((((((((((zc_X12_init).drop 40).drop 40).drop 40).drop 40).drop 40).drop 40).drop 40).drop 40).drop 40).take 40).all (fun e => zOk (zinf 155).1.cls (zinf 155).2.1 (zinf 155).2.2.1 (zinf 155).2.2.2 (decide ((zinf 155).1.name = "<init>")) e) = true := by decide +kernel
theorem zb_zc_X12_init_10 : ((((((((((((zc_X12_init).drop 40).drop 40).drop 40).drop 40).drop 40).drop 40).drop 40).drop 40).drop 40).drop 40).take 40).all (fun e => zOk (zinf 155).1.cls (zinf 155).2.1 (zinf 155).2.2.1 (zinf 155).2.2.2 (decide ((zinf 155).1.name = "<init>")) e) = true := by decide +kernel
theorem zb_zc_X12_init_11 : (((((((((((((zc_X12_init).drop 40).drop 40).drop 40).drop 40).drop 40).drop 40).drop 40).drop 40).drop 40).drop 40).drop 40).take 40).all (fun e => zOk (zinf 155).1.cls (zinf 155).2.1 (zinf 155).2.2.1 (zinf 155).2.2.2 (decide ((zinf 155).1.name = "<init>")) e) = true := by decide +kernel
theorem zb_zc_X12_init_12 : (((((((((((((zc_X12_init).drop 40).drop 40).drop 40).drop 40).drop 40).drop 40).drop 40).drop 40).drop 40).drop 40).drop 40).drop 40).all (fun e => zOk (zinf 155).1.cls (zinf 155).2.1 (zinf 155).2.2.1 (zinf 155).2.2.2 (decide ((zinf 155).1.name = "<init>")) e) = true := by decide +kernel
theorem zcok_46 : ∀ z, 155 ≤ z → z < 156 → zCok z = true := fun z h1 h2 => by
  have e : z = 155 := by omega
  subst e
  exact (all_td 40 zb_zc_X12_init_0 (all_td 40 zb_zc_X12_init_1 (all_td 40 zb_zc_X12_init_2 (all_td 40 zb_zc_X12_init_3 (all_td 40 zb_zc_X12_init_4 (all_td 40 zb_zc_X12_init_5 (all_td 40 zb_zc_X12_init_6 (all_td 40 zb_zc_X12_init_7 (all_td 40 zb_zc_X12_init_8 (all_td 40 zb_zc_X12_init_9 (all_td 40 zb_zc_X12_init_10 (all_td 40 zb_zc_X12_init_11 zb_zc_X12_init_12))))))))))))
theorem zcok_47 : ∀ z, 156 ≤ z → z < 163 → zCok z = true := fun z h1 h2 => by
  have h : (List.range 7).all (fun i => zCok (156 + i)) = true := by decide +kernel
  have := List.all_eq_true.mp h (z - 156) (List.mem_range.mpr (by omega))
  rwa [show 156 + (z - 156) = z by omega] at this
theorem zcok_48 : ∀ z, 163 ≤ z → z < 165 → zCok z = true := fun z h1 h2 => by
  have h : (List.range 2).all (fun i => zCok (163 + i)) = true := by decide +kernel
  have := List.all_eq_true.mp h (z - 163) (List.mem_range.mpr (by omega))
  rwa [show 163 + (z - 163) = z by omega] at this
theorem zcok_49 : ∀ z, 165 ≤ z → z < 166 → zCok z = true := fun z h1 h2 => by
  have h : (List.range 1).all (fun i => zCok (165 + i)) = true := by decide +kernel
  have := List.all_eq_true.mp h (z - 165) (List.mem_range.mpr (by omega))
  rwa [show 165 + (z - 165) = z by omega] at this
theorem zcok_50 : ∀ z, 166 ≤ z → z < 170 → zCok z = true := fun z h1 h2 => by
  have h : (List.range 4).all (fun i => zCok (166 + i)) = true := by decide +kernel
  have := List.all_eq_true.mp h (z - 166) (List.mem_range.mpr (by omega))
  rwa [show 166 + (z - 166) = z by omega] at this
theorem zcok_51 : ∀ z, 170 ≤ z → z < 173 → zCok z = true := fun z h1 h2 => by
  have h : (List.range 3).all (fun i => zCok (170 + i)) = true := by decide +kernel
  have := List.all_eq_true.mp h (z - 170) (List.mem_range.mpr (by omega))
  rwa [show 170 + (z - 170) = z by omega] at this
theorem zcok_52 : ∀ z, 173 ≤ z → z < 174 → zCok z = true := fun z h1 h2 => by
  have h : (List.range 1).all (fun i => zCok (173 + i)) = true := by decide +kernel
  have := List.all_eq_true.mp h (z - 173) (List.mem_range.mpr (by omega))
  rwa [show 173 + (z - 173) = z by omega] at this
theorem zcok_53 : ∀ z, 174 ≤ z → z < 177 → zCok z = true := fun z h1 h2 => by
  have h : (List.range 3).all (fun i => zCok (174 + i)) = true := by decide +kernel
  have := List.all_eq_true.mp h (z - 174) (List.mem_range.mpr (by omega))
  rwa [show 174 + (z - 174) = z by omega] at this
theorem zcok_54 : ∀ z, 177 ≤ z → z < 178 → zCok z = true := fun z h1 h2 => by
  have h : (List.range 1).all (fun i => zCok (177 + i)) = true := by decide +kernel
  have := List.all_eq_true.mp h (z - 177) (List.mem_range.mpr (by omega))
  rwa [show 177 + (z - 177) = z by omega] at this
theorem zcok_55 : ∀ z, 178 ≤ z → z < 181 → zCok z = true := fun z h1 h2 => by
  have h : (List.range 3).all (fun i => zCok (178 + i)) = true := by decide +kernel
  have := List.all_eq_true.mp h (z - 178) (List.mem_range.mpr (by omega))
  rwa [show 178 + (z - 178) = z by omega] at this
theorem zcok_56 : ∀ z, 181 ≤ z → z < 182 → zCok z = true := fun z h1 h2 => by
  have h : (List.range 1).all (fun i => zCok (181 + i)) = true := by decide +kernel
  have := List.all_eq_true.mp h (z - 181) (List.mem_range.mpr (by omega))
  rwa [show 181 + (z - 181) = z by omega] at this
theorem zcok_57 : ∀ z, 182 ≤ z → z < 183 → zCok z = true := fun z h1 h2 => by
  have h : (List.range 1).all (fun i => zCok (182 + i)) = true := by decide +kernel
  have := List.all_eq_true.mp h (z - 182) (List.mem_range.mpr (by omega))
  rwa [show 182 + (z - 182) = z by omega] at this
theorem zcok_58 : ∀ z, 183 ≤ z → z < 184 → zCok z = true := fun z h1 h2 => by
  have h : (List.range 1).all (fun i => zCok (183 + i)) = true := by decide +kernel
  have := List.all_eq_true.mp h (z - 183) (List.mem_range.mpr (by omega))
  rwa [show 183 + (z - 183) = z by omega] at this
theorem zcok_59 : ∀ z, 184 ≤ z → z < 185 → zCok z = true := fun z h1 h2 => by
  have h : (List.range 1).all (fun i => zCok (184 + i)) = true := by decide +kernel
  have := List.all_eq_true.mp h (z - 184) (List.mem_range.mpr (by omega))
  rwa [show 184 + (z - 184) = z by omega] at this
theorem zcok_60 : ∀ z, 185 ≤ z → z < 188 → zCok z = true := fun z h1 h2 => by
  have h : (List.range 3).all (fun i => zCok (185 + i)) = true := by decide +kernel
  have := List.all_eq_true.mp h (z - 185) (List.mem_range.mpr (by omega))
  rwa [show 185 + (z - 185) = z by omega] at this
theorem zcok_61 : ∀ z, 188 ≤ z → z < 189 → zCok z = true := fun z h1 h2 => by
  have h : (List.range 1).all (fun i => zCok (188 + i)) = true := by decide +kernel
  have := List.all_eq_true.mp h (z - 188) (List.mem_range.mpr (by omega))
  rwa [show 188 + (z - 188) = z by omega] at this
theorem zcok_62 : ∀ z, 189 ≤ z → z < 190 → zCok z = true := fun z h1 h2 => by
  have h : (List.range 1).all (fun i => zCok (189 + i)) = true := by decide +kernel
  have := List.all_eq_true.mp h (z - 189) (List.mem_range.mpr (by omega))
  rwa [show 189 + (z - 189) = z by omega] at this
theorem zcok_63 : ∀ z, 190 ≤ z → z < 193 → zCok z = true := fun z h1 h2 => by
  have h : (List.range 3).all (fun i => zCok (190 + i)) = true := by decide +kernel
  have := List.all_eq_true.mp h (z - 190) (List.mem_range.mpr (by omega))
  rwa [show 190 + (z - 190) = z by omega] at this
theorem zcok_64 : ∀ z, 193 ≤ z → z < 198 → zCok z = true := fun z h1 h2 => by
  have h : (List.range 5).all (fun i => zCok (193 + i)) = true := by decide +kernel
  have := List.all_eq_true.mp h (z - 193) (List.mem_range.mpr (by omega))
  rwa [show 193 + (z - 193) = z by omega] at this
theorem zcok_65 : ∀ z, 198 ≤ z → z < 199 → zCok z = true := fun z h1 h2 => by
  have h : (List.range 1).all (fun i => zCok (198 + i)) = true := by decide +kernel
  have := List.all_eq_true.mp h (z - 198) (List.mem_range.mpr (by omega))
  rwa [show 198 + (z - 198) = z by omega] at this
theorem zcok_66 : ∀ z, 199 ≤ z → z < 205 → zCok z = true := fun z h1 h2 => by
  have h : (List.range 6).all (fun i => zCok (199 + i)) = true := by decide +kernel
  have := List.all_eq_true.mp h (z - 199) (List.mem_range.mpr (by omega))
  rwa [show 199 + (z - 199) = z by omega] at this
theorem zcok_67 : ∀ z, 205 ≤ z → z < 206 → zCok z = true := fun z h1 h2 => by
  have h : (List.range 1).all (fun i => zCok (205 + i)) = true := by decide +kernel
  have := List.all_eq_true.mp h (z - 205) (List.mem_range.mpr (by omega))
  rwa [show 205 + (z - 205) = z by omega] at this
theorem zcok_68 : ∀ z, 206 ≤ z → z < 207 → zCok z = true := fun z h1 h2 => by
  have h : (List.range 1).all (fun i => zCok (206 + i)) = true := by decide +kernel
  have := List.all_eq_true.mp h (z - 206) (List.mem_range.mpr (by omega))
  rwa [show 206 + (z - 206) = z by omega] at this
theorem zcok_69 : ∀ z, 207 ≤ z → z < 211 → zCok z = true := fun z h1 h2 => by
  have h : (List.range 4).all (fun i => zCok (207 + i)) = true := by decide +kernel
  have := List.all_eq_true.mp h (z - 207) (List.mem_range.mpr (by omega))
  rwa [show 207 + (z - 207) = z by omega] at this
theorem zcok_70 : ∀ z, 211 ≤ z → z < 214 → zCok z = true := fun z h1 h2 => by
  have h : (List.range 3).all (fun i => zCok (211 + i)) = true := by decide +kernel
  have := List.all_eq_true.mp h (z - 211) (List.mem_range.mpr (by omega))
  rwa [show 211 + (z - 211) = z by omega] at this
theorem zcok_71 : ∀ z, 214 ≤ z → z < 215 → zCok z = true := fun z h1 h2 => by
  have h : (List.range 1).all (fun i => zCok (214 + i)) = true := by decide +kernel
  have := List.all_eq_true.mp h (z - 214) (List.mem_range.mpr (by omega))
  rwa [show 214 + (z - 214) = z by omega] at this
theorem zcok_72 : ∀ z, 215 ≤ z → z < 216 → zCok z = true := fun z h1 h2 => by
  have h : (List.range 1).all (fun i => zCok (215 + i)) = true := by decide +kernel
  have := List.all_eq_true.mp h (z - 215) (List.mem_range.mpr (by omega))
  rwa [show 215 + (z - 215) = z by omega] at this
theorem zcok_73 : ∀ z, 216 ≤ z → z < 218 → zCok z = true := fun z h1 h2 => by
  have h : (List.range 2).all (fun i => zCok (216 + i)) = true := by decide +kernel
  have := List.all_eq_true.mp h (z - 216) (List.mem_range.mpr (by omega))
  rwa [show 216 + (z - 216) = z by omega] at this
theorem zcok_74 : ∀ z, 218 ≤ z → z < 221 → zCok z = true := fun z h1 h2 => by
  have h : (List.range 3).all (fun i => zCok (218 + i)) = true := by decide +kernel
  have := List.all_eq_true.mp h (z - 218) (List.mem_range.mpr (by omega))
  rwa [show 218 + (z - 218) = z by omega] at this
theorem zcok_75 : ∀ z, 221 ≤ z → z < 222 → zCok z = true := fun z h1 h2 => by
  have h : (List.range 1).all (fun i => zCok (221 + i)) = true := by decide +kernel
  have := List.all_eq_true.mp h (z - 221) (List.mem_range.mpr (by omega))
  rwa [show 221 + (z - 221) = z by omega] at this
theorem zcok_76 : ∀ z, 222 ≤ z → z < 223 → zCok z = true := fun z h1 h2 => by
  have h : (List.range 1).all (fun i => zCok (222 + i)) = true := by decide +kernel
  have := List.all_eq_true.mp h (z - 222) (List.mem_range.mpr (by omega))
  rwa [show 222 + (z - 222) = z by omega] at this
theorem zcok_77 : ∀ z, 223 ≤ z → z < 226 → zCok z = true := fun z h1 h2 => by
  have h : (List.range 3).all (fun i => zCok (223 + i)) = true := by decide +kernel
  have := List.all_eq_true.mp h (z - 223) (List.mem_range.mpr (by omega))
  rwa [show 223 + (z - 223) = z by omega] at this
theorem zcok_78 : ∀ z, 226 ≤ z → z < 227 → zCok z = true := fun z h1 h2 => by
  have h : (List.range 1).all (fun i => zCok (226 + i)) = true := by decide +kernel
  have := List.all_eq_true.mp h (z - 226) (List.mem_range.mpr (by omega))
  rwa [show 226 + (z - 226) = z by omega] at this
theorem zcok_79 : ∀ z, 227 ≤ z → z < 230 → zCok z = true := fun z h1 h2 => by
  have h : (List.range 3).all (fun i => zCok (227 + i)) = true := by decide +kernel
  have := List.all_eq_true.mp h (z - 227) (List.mem_range.mpr (by omega))
  rwa [show 227 + (z - 227) = z by omega] at this
theorem zcok_80 : ∀ z, 230 ≤ z → z < 232 → zCok z = true := fun z h1 h2 => by
  have h : (List.range 2).all (fun i => zCok (230 + i)) = true := by decide +kernel
  have := List.all_eq_true.mp h (z - 230) (List.mem_range.mpr (by omega))
  rwa [show 230 + (z - 230) = z by omega] at this
theorem zcok_81 : ∀ z, 232 ≤ z → z < 234 → zCok z = true := fun z h1 h2 => by
  have h : (List.range 2).all (fun i => zCok (232 + i)) = true := by decide +kernel
  have := List.all_eq_true.mp h (z - 232) (List.mem_range.mpr (by omega))
  rwa [show 232 + (z - 232) = z by omega] at this
theorem zcok_82 : ∀ z, 234 ≤ z → z < 236 → zCok z = true := fun z h1 h2 => by
  have h : (List.range 2).all (fun i => zCok (234 + i)) = true := by decide +kernel
  have := List.all_eq_true.mp h (z - 234) (List.mem_range.mpr (by omega))
  rwa [show 234 + (z - 234) = z by omega] at this
theorem zcok_83 : ∀ z, 236 ≤ z → z < 238 → zCok z = true := fun z h1 h2 => by
  have h : (List.range 2).all (fun i => zCok (236 + i)) = true := by decide +kernel
  have := List.all_eq_true.mp h (z - 236) (List.mem_range.mpr (by omega))
  rwa [show 236 + (z - 236) = z by omega] at this
theorem zcok_84 : ∀ z, 238 ≤ z → z < 241 → zCok z = true := fun z h1 h2 => by
  have h : (List.range 3).all (fun i => zCok (238 + i)) = true := by decide +kernel
  have := List.all_eq_true.mp h (z - 238) (List.mem_range.mpr (by omega))
  rwa [show 238 + (z - 238) = z by omega] at this
theorem zcok_85 : ∀ z, 241 ≤ z → z < 242 → zCok z = true := fun z h1 h2 => by
  have h : (List.range 1).all (fun i => zCok (241 + i)) = true := by decide +kernel
  have := List.all_eq_true.mp h (z - 241) (List.mem_range.mpr (by omega))
  rwa [show 241 + (z - 241) = z by omega] at this
theorem zcok_86 : ∀ z, 242 ≤ z → z < 244 → zCok z = true := fun z h1 h2 => by
  have h : (List.range 2).all (fun i => zCok (242 + i)) = true := by decide +kernel
  have := List.all_eq_true.mp h (z - 242) (List.mem_range.mpr (by omega))
  rwa [show 242 + (z - 242) = z by omega] at this
theorem zcok_87 : ∀ z, 244 ≤ z → z < 245 → zCok z = true := fun z h1 h2 => by
  have h : (List.range 1).all (fun i => zCok (244 + i)) = true := by decide +kernel
  have := List.all_eq_true.mp h (z - 244) (List.mem_range.mpr (by omega))
  rwa [show 244 + (z - 244) = z by omega] at this
theorem zcok_88 : ∀ z, 245 ≤ z → z < 246 → zCok z = true := fun z h1 h2 => by
  have h : (List.range 1).all (fun i => zCok (245 + i)) = true := by decide +kernel
  have := List.all_eq_true.mp h (z - 245) (List.mem_range.mpr (by omega))
  rwa [show 245 + (z - 245) = z by omega] at this
theorem zcok_89 : ∀ z, 246 ≤ z → z < 247 → zCok z = true := fun z h1 h2 => by
  have h : (List.range 1).all (fun i => zCok (246 + i)) = true := by decide +kernel
  have := List.all_eq_true.mp h (z - 246) (List.mem_range.mpr (by omega))
  rwa [show 246 + (z - 246) = z by omega] at this
theorem zcok_90 : ∀ z, 247 ≤ z → z < 249 → zCok z = true := fun z h1 h2 => by
  have h : (List.range 2).all (fun i => zCok (247 + i)) = true := by decide +kernel
  have := List.all_eq_true.mp h (z - 247) (List.mem_range.mpr (by omega))
  rwa [show 247 + (z - 247) = z by omega] at this
theorem zcok_91 : ∀ z, 249 ≤ z → z < 253 → zCok z = true := fun z h1 h2 => by
  have h : (List.range 4).all (fun i => zCok (249 + i)) = true := by decide +kernel
  have := List.all_eq_true.mp h (z - 249) (List.mem_range.mpr (by omega))
  rwa [show 249 + (z - 249) = z by omega] at this
theorem zcok_92 : ∀ z, 253 ≤ z → z < 255 → zCok z = true := fun z h1 h2 => by
  have h : (List.range 2).all (fun i => zCok (253 + i)) = true := by decide +kernel
  have := List.all_eq_true.mp h (z - 253) (List.mem_range.mpr (by omega))
  rwa [show 253 + (z - 253) = z by omega] at this
theorem zcok_93 : ∀ z, 255 ≤ z → z < 258 → zCok z = true := fun z h1 h2 => by
  have h : (List.range 3).all (fun i => zCok (255 + i)) = true := by decide +kernel
  have := List.all_eq_true.mp h (z - 255) (List.mem_range.mpr (by omega))
  rwa [show 255 + (z - 255) = z by omega] at this
theorem zcok_94 : ∀ z, 258 ≤ z → z < 261 → zCok z = true := fun z h1 h2 => by
  have h : (List.range 3).all (fun i => zCok (258 + i)) = true := by decide +kernel
  have := List.all_eq_true.mp h (z - 258) (List.mem_range.mpr (by omega))
  rwa [show 258 + (z - 258) = z by omega] at this
theorem zcok_95 : ∀ z, 261 ≤ z → z < 265 → zCok z = true := fun z h1 h2 => by
  have h : (List.range 4).all (fun i => zCok (261 + i)) = true := by decide +kernel
  have := List.all_eq_true.mp h (z - 261) (List.mem_range.mpr (by omega))
  rwa [show 261 + (z - 261) = z by omega] at this
theorem zcok_96 : ∀ z, 265 ≤ z → z < 274 → zCok z = true := fun z h1 h2 => by
  have h : (List.range 9).all (fun i => zCok (265 + i)) = true := by decide +kernel
  have := List.all_eq_true.mp h (z - 265) (List.mem_range.mpr (by omega))
  rwa [show 265 + (z - 265) = z by omega] at this
theorem zcok_97 : ∀ z, 274 ≤ z → z < 278 → zCok z = true := fun z h1 h2 => by
  have h : (List.range 4).all (fun i => zCok (274 + i)) = true := by decide +kernel
  have := List.all_eq_true.mp h (z - 274) (List.mem_range.mpr (by omega))
  rwa [show 274 + (z - 274) = z by omega] at this
theorem zcok_all : ∀ z, z < 278 → zCok z = true := fun z h => by
  by_cases h0 : z < 7
  · exact zcok_0 z (by omega) h0
  by_cases h1 : z < 11
  · exact zcok_1 z (by omega) h1
  by_cases h2 : z < 19
  · exact zcok_2 z (by omega) h2
  by_cases h3 : z < 25
  · exact zcok_3 z (by omega) h3
  by_cases h4 : z < 30
  · exact zcok_4 z (by omega) h4
  by_cases h5 : z < 34
  · exact zcok_5 z (by omega) h5
  by_cases h6 : z < 37
  · exact zcok_6 z (by omega) h6
  by_cases h7 : z < 41
  · exact zcok_7 z (by omega) h7
  by_cases h8 : z < 47
  · exact zcok_8 z (by omega) h8
  by_cases h9 : z < 50
  · exact zcok_9 z (by omega) h9
  by_cases h10 : z < 53
  · exact zcok_10 z (by omega) h10
  by_cases h11 : z < 55
  · exact zcok_11 z (by omega) h11
  by_cases h12 : z < 58
  · exact zcok_12 z (by omega) h12
  by_cases h13 : z < 59
  · exact zcok_13 z (by omega) h13
  by_cases h14 : z < 61
  · exact zcok_14 z (by omega) h14
  by_cases h15 : z < 63
  · exact zcok_15 z (by omega) h15
  by_cases h16 : z < 67
  · exact zcok_16 z (by omega) h16
  by_cases h17 : z < 74
  · exact zcok_17 z (by omega) h17
  by_cases h18 : z < 75
  · exact zcok_18 z (by omega) h18
  by_cases h19 : z < 77
  · exact zcok_19 z (by omega) h19
  by_cases h20 : z < 83
  · exact zcok_20 z (by omega) h20
  by_cases h21 : z < 84
  · exact zcok_21 z (by omega) h21
  by_cases h22 : z < 85
  · exact zcok_22 z (by omega) h22
  by_cases h23 : z < 87
  · exact zcok_23 z (by omega) h23
  by_cases h24 : z < 90
  · exact zcok_24 z (by omega) h24
  by_cases h25 : z < 92
  · exact zcok_25 z (by omega) h25
  by_cases h26 : z < 94
  · exact zcok_26 z (by omega) h26
  by_cases h27 : z < 98
  · exact zcok_27 z (by omega) h27
  by_cases h28 : z < 102
  · exact zcok_28 z (by omega) h28
  by_cases h29 : z < 107
  · exact zcok_29 z (by omega) h29
  by_cases h30 : z < 111
  · exact zcok_30 z (by omega) h30
  by_cases h31 : z < 113
  · exact zcok_31 z (by omega) h31
  by_cases h32 : z < 119
  · exact zcok_32 z (by omega) h32
  by_cases h33 : z < 121
  · exact zcok_33 z (by omega) h33
  by_cases h34 : z < 122
  · exact zcok_34 z (by omega) h34
  by_cases h35 : z < 124
  · exact zcok_35 z (by omega) h35
  by_cases h36 : z < 127
  · exact zcok_36 z (by omega) h36
  by_cases h37 : z < 129
  · exact zcok_37 z (by omega) h37
  by_cases h38 : z < 132
  · exact zcok_38 z (by omega) h38
  by_cases h39 : z < 135
  · exact zcok_39 z (by omega) h39
  by_cases h40 : z < 138
  · exact zcok_40 z (by omega) h40
  by_cases h41 : z < 141
  · exact zcok_41 z (by omega) h41
  by_cases h42 : z < 144
  · exact zcok_42 z (by omega) h42
  by_cases h43 : z < 147
  · exact zcok_43 z (by omega) h43
  by_cases h44 : z < 151
  · exact zcok_44 z (by omega) h44
  by_cases h45 : z < 155
  · exact zcok_45 z (by omega) h45
  by_cases h46 : z < 156
  · exact zcok_46 z (by omega) h46
  by_cases h47 : z < 163
  · exact zcok_47 z (by omega) h47
  by_cases h48 : z < 165
  · exact zcok_48 z (by omega) h48
  by_cases h49 : z < 166
  · exact zcok_49 z (by omega) h49
  by_cases h50 : z < 170
  · exact zcok_50 z (by omega) h50
  by_cases h51 : z < 173
  · exact zcok_51 z (by omega) h51
  by_cases h52 : z < 174
  · exact zcok_52 z (by omega) h52
  by_cases h53 : z < 177
  · exact zcok_53 z (by omega) h53
  by_cases h54 : z < 178
  · exact zcok_54 z (by omega) h54
  by_cases h55 : z < 181
  · exact zcok_55 z (by omega) h55
  by_cases h56 : z < 182
  · exact zcok_56 z (by omega) h56
  by_cases h57 : z < 183
  · exact zcok_57 z (by omega) h57
  by_cases h58 : z < 184
  · exact zcok_58 z (by omega) h58
  by_cases h59 : z < 185
  · exact zcok_59 z (by omega) h59
  by_cases h60 : z < 188
  · exact zcok_60 z (by omega) h60
  by_cases h61 : z < 189
  · exact zcok_61 z (by omega) h61
  by_cases h62 : z < 190
  · exact zcok_62 z (by omega) h62
  by_cases h63 : z < 193
  · exact zcok_63 z (by omega) h63
  by_cases h64 : z < 198
  · exact zcok_64 z (by omega) h64
  by_cases h65 : z < 199
  · exact zcok_65 z (by omega) h65
  by_cases h66 : z < 205
  · exact zcok_66 z (by omega) h66
  by_cases h67 : z < 206
  · exact zcok_67 z (by omega) h67
  by_cases h68 : z < 207
  · exact zcok_68 z (by omega) h68
  by_cases h69 : z < 211
  · exact zcok_69 z (by omega) h69
  by_cases h70 : z < 214
  · exact zcok_70 z (by omega) h70
  by_cases h71 : z < 215
  · exact zcok_71 z (by omega) h71
  by_cases h72 : z < 216
  · exact zcok_72 z (by omega) h72
  by_cases h73 : z < 218
  · exact zcok_73 z (by omega) h73
  by_cases h74 : z < 221
  · exact zcok_74 z (by omega) h74
  by_cases h75 : z < 222
  · exact zcok_75 z (by omega) h75
  by_cases h76 : z < 223
  · exact zcok_76 z (by omega) h76
  by_cases h77 : z < 226
  · exact zcok_77 z (by omega) h77
  by_cases h78 : z < 227
  · exact zcok_78 z (by omega) h78
  by_cases h79 : z < 230
  · exact zcok_79 z (by omega) h79
  by_cases h80 : z < 232
  · exact zcok_80 z (by omega) h80
  by_cases h81 : z < 234
  · exact zcok_81 z (by omega) h81
  by_cases h82 : z < 236
  · exact zcok_82 z (by omega) h82
  by_cases h83 : z < 238
  · exact zcok_83 z (by omega) h83
  by_cases h84 : z < 241
  · exact zcok_84 z (by omega) h84
  by_cases h85 : z < 242
  · exact zcok_85 z (by omega) h85
  by_cases h86 : z < 244
  · exact zcok_86 z (by omega) h86
  by_cases h87 : z < 245
  · exact zcok_87 z (by omega) h87
  by_cases h88 : z < 246
  · exact zcok_88 z (by omega) h88
  by_cases h89 : z < 247
  · exact zcok_89 z (by omega) h89
  by_cases h90 : z < 249
  · exact zcok_90 z (by omega) h90
  by_cases h91 : z < 253
  · exact zcok_91 z (by omega) h91
  by_cases h92 : z < 255
  · exact zcok_92 z (by omega) h92
  by_cases h93 : z < 258
  · exact zcok_93 z (by omega) h93
  by_cases h94 : z < 261
  · exact zcok_94 z (by omega) h94
  by_cases h95 : z < 265
  · exact zcok_95 z (by omega) h95
  by_cases h96 : z < 274
  · exact zcok_96 z (by omega) h96
  exact zcok_97 z (by omega) h
theorem zb_zc_law_0 : ((zc_law).take 40).all (fun e => zOk "SilkRiseLaw" code 4 (some .boolean) false e) = true := by decide +kernel
theorem zb_zc_law_1 : (((zc_law).drop 40).take 40).all (fun e => zOk "SilkRiseLaw" code 4 (some .boolean) false e) = true := by decide +kernel
theorem zb_zc_law_2 : ((((zc_law).drop 40).drop 40).take 40).all (fun e => zOk "SilkRiseLaw" code 4 (some .boolean) false e) = true := by decide +kernel
theorem zb_zc_law_3 : (((((zc_law).drop 40).drop 40).drop 40).take 40).all (fun e => zOk "SilkRiseLaw" code 4 (some .boolean) false e) = true := by decide +kernel
theorem zb_zc_law_4 : ((((((zc_law).drop 40).drop 40).drop 40).drop 40).take 40).all (fun e => zOk "SilkRiseLaw" code 4 (some .boolean) false e) = true := by decide +kernel
theorem zb_zc_law_5 : (((((((zc_law).drop 40).drop 40).drop 40).drop 40).drop 40).take 40).all (fun e => zOk "SilkRiseLaw" code 4 (some .boolean) false e) = true := by decide +kernel
theorem zb_zc_law_6 : ((((((((zc_law).drop 40).drop 40).drop 40).drop 40).drop 40).drop 40).take 40).all (fun e => zOk "SilkRiseLaw" code 4 (some .boolean) false e) = true := by decide +kernel
theorem zb_zc_law_7 : (((((((((zc_law).drop 40).drop 40).drop 40).drop 40).drop 40).drop 40).drop 40).take 40).all (fun e => zOk "SilkRiseLaw" code 4 (some .boolean) false e) = true := by decide +kernel
theorem zb_zc_law_8 : ((((((((((zc_law).drop 40).drop 40).drop 40).drop 40).drop 40).drop 40).drop 40).drop 40).take 40).all (fun e => zOk "SilkRiseLaw" code 4 (some .boolean) false e) = true := by decide +kernel
theorem zb_zc_law_9 : (((((((((((zc_law).drop 40).drop 40).drop 40).drop 40).drop 40).drop 40).drop 40).drop 40).drop 40).take 40).all (fun e => zOk "SilkRiseLaw" code 4 (some .boolean) false e) = true := by decide +kernel
theorem zb_zc_law_10 : ((((((((((((zc_law).drop 40).drop 40).drop 40).drop 40).drop 40).drop 40).drop 40).drop 40).drop 40).drop 40).take 40).all (fun e => zOk "SilkRiseLaw" code 4 (some .boolean) false e) = true := by decide +kernel
theorem zb_zc_law_11 : (((((((((((((zc_law).drop 40).drop 40).drop 40).drop 40).drop 40).drop 40).drop 40).drop 40).drop 40).drop 40).drop 40).take 40).all (fun e => zOk "SilkRiseLaw" code 4 (some .boolean) false e) = true := by decide +kernel
theorem zb_zc_law_12 : ((((((((((((((zc_law).drop 40).drop 40).drop 40).drop 40).drop 40).drop 40).drop 40).drop 40).drop 40).drop 40).drop 40).drop 40).take 40).all (fun e => zOk "SilkRiseLaw" code 4 (some .boolean) false e) = true := by decide +kernel
theorem zb_zc_law_13 : (((((((((((((((zc_law).drop 40).drop 40).drop 40).drop 40).drop 40).drop 40).drop 40).drop 40).drop 40).drop 40).drop 40).drop 40).drop 40).take 40).all (fun e => zOk "SilkRiseLaw" code 4 (some .boolean) false e) = true := by decide +kernel
theorem zb_zc_law_14 : ((((((((((((((((zc_law).drop 40).drop 40).drop 40).drop 40).drop 40).drop 40).drop 40).drop 40).drop 40).drop 40).drop 40).drop 40).drop 40).drop 40).take 40).all (fun e => zOk "SilkRiseLaw" code 4 (some .boolean) false e) = true := by decide +kernel
theorem zb_zc_law_15 : (((((((((((((((((zc_law).drop 40).drop 40).drop 40).drop 40).drop 40).drop 40).drop 40).drop 40).drop 40).drop 40).drop 40).drop 40).drop 40).drop 40).drop 40).take 40).all (fun e => zOk "SilkRiseLaw" code 4 (some .boolean) false e) = true := by decide +kernel
theorem zb_zc_law_16 : ((((((((((((((((((zc_law).drop 40).drop 40).drop 40).drop 40).drop 40).drop 40).drop 40).drop 40).drop 40).drop 40).drop 40).drop 40).drop 40).drop 40).drop 40).drop 40).take 40).all (fun e => zOk "SilkRiseLaw" code 4 (some .boolean) false e) = true := by decide +kernel
theorem zb_zc_law_17 : (((((((((((((((((((zc_law).drop 40).drop 40).drop 40).drop 40).drop 40).drop 40).drop 40).drop 40).drop 40).drop 40).drop 40).drop 40).drop 40).drop 40).drop 40).drop 40).drop 40).take 40).all (fun e => zOk "SilkRiseLaw" code 4 (some .boolean) false e) = true := by decide +kernel
theorem zb_zc_law_18 : ((((((((((((((((((((zc_law).drop 40).drop 40).drop 40).drop 40).drop 40).drop 40).drop 40).drop 40).drop 40).drop 40).drop 40).drop 40).drop 40).drop 40).drop 40).drop 40).drop 40).drop 40).take 40).all (fun e => zOk "SilkRiseLaw" code 4 (some .boolean) false e) = true := by decide +kernel
theorem zb_zc_law_19 : (((((((((((((((((((((zc_law).drop 40).drop 40).drop 40).drop 40).drop 40).drop 40).drop 40).drop 40).drop 40).drop 40).drop 40).drop 40).drop 40).drop 40).drop 40).drop 40).drop 40).drop 40).drop 40).take 40).all (fun e => zOk "SilkRiseLaw" code 4 (some .boolean) false e) = true := by decide +kernel
theorem zb_zc_law_20 : (((((((((((((((((((((zc_law).drop 40).drop 40).drop 40).drop 40).drop 40).drop 40).drop 40).drop 40).drop 40).drop 40).drop 40).drop 40).drop 40).drop 40).drop 40).drop 40).drop 40).drop 40).drop 40).drop 40).all (fun e => zOk "SilkRiseLaw" code 4 (some .boolean) false e) = true := by decide +kernel
theorem zlok : zc_law.all (fun e => zOk "SilkRiseLaw" code 4 (some .boolean) false e) = true := (all_td 40 zb_zc_law_0 (all_td 40 zb_zc_law_1 (all_td 40 zb_zc_law_2 (all_td 40 zb_zc_law_3 (all_td 40 zb_zc_law_4 (all_td 40 zb_zc_law_5 (all_td 40 zb_zc_law_6 (all_td 40 zb_zc_law_7 (all_td 40 zb_zc_law_8 (all_td 40 zb_zc_law_9 (all_td 40 zb_zc_law_10 (all_td 40 zb_zc_law_11 (all_td 40 zb_zc_law_12 (all_td 40 zb_zc_law_13 (all_td 40 zb_zc_law_14 (all_td 40 zb_zc_law_15 (all_td 40 zb_zc_law_16 (all_td 40 zb_zc_law_17 (all_td 40 zb_zc_law_18 (all_td 40 zb_zc_law_19 zb_zc_law_20))))))))))))))))))))
