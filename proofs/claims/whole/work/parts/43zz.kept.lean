/-! held within, within -/
theorem s_kept (d : Nat) {S : mS} {I : mI} {L : mJ} (x lo hi : Int32) (h : lo ≤ hi) : evM zcod (d + 2) 146 [.int x, .int lo, .int hi] (S, I, L) = some (some (.int (hld x lo hi)), (S, I, L)) := by
  rw [E_X11_keptWithin]
  simp only [B_X11_keptWithin_0, s_min, s_max, bI_eq, if_true]
  congr 3
  unfold hld
  rw [i_le] at h
  simp only [i_lt]
  by_cases c2 : x.toInt < hi.toInt
  · simp only [if_pos c2]
    rw [if_neg (show ¬ hi.toInt < x.toInt by omega)]
    by_cases c1 : x.toInt < lo.toInt
    · rw [if_neg (by omega), if_pos c1]
    · rw [if_neg c1]
      by_cases c3 : lo.toInt < x.toInt
      · rw [if_pos c3]
      · rw [if_neg c3, (i_eq lo x).mpr (by omega)]
  · simp only [if_neg c2]
    by_cases c1 : x.toInt < lo.toInt
    · omega
    · rw [if_neg c1]
      by_cases c3 : hi.toInt < x.toInt
      · rw [if_pos c3]
        by_cases c4 : lo.toInt < hi.toInt
        · rw [if_pos c4]
        · rw [if_neg c4, (i_eq lo hi).mpr (by omega)]
      · rw [if_neg c3, (i_eq x hi).mpr (by omega)]
        by_cases c4 : lo.toInt < hi.toInt
        · rw [if_pos c4]
        · rw [if_neg c4, (i_eq lo hi).mpr (by omega)]
theorem s_isWithin (d : Nat) {S : mS} {I : mI} {L : mJ} (x lo hi : Int32) : evM zcod (d + 1) 145 [.int x, .int lo, .int hi] (S, I, L) = some (some (.int (if lo ≤ x ∧ x ≤ hi then nI 1 else nI 0)), (S, I, L)) := by
  rw [E_X11_isWithin]
  simp only [B_X11_isWithin_0, B_X11_isWithin_14, B_X11_isWithin_15, b0, b1, if_true]
  simp only [i_lt, i_le]
  by_cases c1 : x.toInt < lo.toInt
  · rw [if_pos c1, if_neg (by omega)]
  · by_cases c2 : hi.toInt < x.toInt
    · rw [if_neg c1, if_pos c2, if_neg (by omega)]
    · rw [if_neg c1, if_neg c2, if_pos (by omega)]
