def zinfLL : List (List zI) := [zinf_0, zinf_1, zinf_2, zinf_3, zinf_4, zinf_5, zinf_6, zinf_7, zinf_8, zinf_9, zinf_10, zinf_11, zinf_12, zinf_13, zinf_14, zinf_15, zinf_16, zinf_17, zinf_18, zinf_19, zinf_20, zinf_21, zinf_22, zinf_23, zinf_24, zinf_25, zinf_26, zinf_27]
def zinfL : List zI := zinfLL.flatten
theorem zinfL_in : ∀ q ∈ zinfL, zcdw q ∈ lw_tbl := by
  intro q hq
  unfold zinfL zinfLL at hq
  obtain ⟨l, hl, hq⟩ := List.mem_flatten.mp hq
  have hq2 : zcdw q ∈ l.map zcdw := List.mem_map.mpr ⟨q, hq, rfl⟩
  simp only [List.mem_cons, List.not_mem_nil, or_false] at hl
  rcases hl with rfl | rfl | rfl | rfl | rfl | rfl | rfl | rfl | rfl | rfl | rfl | rfl | rfl | rfl | rfl | rfl | rfl | rfl | rfl | rfl | rfl | rfl | rfl | rfl | rfl | rfl | rfl | rfl
  · exact zch_sub zinfp_0 _ hq2
  · exact zch_sub zinfp_1 _ hq2
  · exact zch_sub zinfp_2 _ hq2
  · exact zch_sub zinfp_3 _ hq2
  · exact zch_sub zinfp_4 _ hq2
  · exact zch_sub zinfp_5 _ hq2
  · exact zch_sub zinfp_6 _ hq2
  · exact zch_sub zinfp_7 _ hq2
  · exact zch_sub zinfp_8 _ hq2
  · exact zch_sub zinfp_9 _ hq2
  · exact zch_sub zinfp_10 _ hq2
  · exact zch_sub zinfp_11 _ hq2
  · exact zch_sub zinfp_12 _ hq2
  · exact zch_sub zinfp_13 _ hq2
  · exact zch_sub zinfp_14 _ hq2
  · exact zch_sub zinfp_15 _ hq2
  · exact zch_sub zinfp_16 _ hq2
  · exact zch_sub zinfp_17 _ hq2
  · exact zch_sub zinfp_18 _ hq2
  · exact zch_sub zinfp_19 _ hq2
  · exact zch_sub zinfp_20 _ hq2
  · exact zch_sub zinfp_21 _ hq2
  · exact zch_sub zinfp_22 _ hq2
  · exact zch_sub zinfp_23 _ hq2
  · exact zch_sub zinfp_24 _ hq2
  · exact zch_sub zinfp_25 _ hq2
  · exact zch_sub zinfp_26 _ hq2
  · exact zch_sub zinfp_27 _ hq2
def zTb : List Jvm.Cond := zchL.flatten ++ (zinfL.map zcdw ++ zuws.flatten)
theorem zTb_in : ∀ w ∈ zTb, w ∈ lw_tbl := by
  intro w hw
  unfold zTb at hw
  rcases List.mem_append.mp hw with h | h
  · obtain ⟨l, hl, h⟩ := List.mem_flatten.mp h
    exact zchL_in l hl w h
  · rcases List.mem_append.mp h with h | h
    · obtain ⟨q, hq, rfl⟩ := List.mem_map.mp h
      exact zinfL_in q hq
    · obtain ⟨l, hl, h⟩ := List.mem_flatten.mp h
      exact zuws_in l hl w h
theorem zTb_good : ∀ w ∈ zTb, goodWord w = true ∨ nestw w = true := by
  intro w hw
  unfold zTb at hw
  rcases List.mem_append.mp hw with h | h
  · obtain ⟨l, hl, h⟩ := List.mem_flatten.mp h
    have := List.all_eq_true.mp (List.all_eq_true.mp zchL_good l hl) w h
    rw [Bool.or_eq_true] at this
    exact this
  · rcases List.mem_append.mp h with h | h
    · obtain ⟨q, hq, rfl⟩ := List.mem_map.mp h
      exact Or.inl rfl
    · obtain ⟨l, hl, h⟩ := List.mem_flatten.mp h
      exact Or.inl (List.all_eq_true.mp (List.all_eq_true.mp zuws_good l hl) w h)
theorem zT_in {i : Nat} {c : Jvm.Cond} (h : zT i = some c) : c ∈ zTb := by
  unfold zT at h
  have h1 := List.mem_of_getElem? h
  rw [List.getD_eq_getElem?_getD] at h1
  cases hl : zchL[i / 32]? with
  | none => rw [hl] at h1; cases h1
  | some l =>
    rw [hl] at h1
    exact List.mem_append_left _ (List.mem_flatten.mpr ⟨l, List.mem_of_getElem? hl, h1⟩)
def zinf (z : Nat) : zI := (zinfLL.getD (z / 10) []).getD (z % 10) (⟨"", "", ""⟩, ⟨#[]⟩, 0, none)
def zcod (z : Nat) : Nat × List zE := ((zinf z).2.2.1, zcodL.getD z [])
abbrev zGood (z : Nat) : Prop := z < 278
