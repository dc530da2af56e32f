/-! laws, class side: the machine with a stack, step by step -/
theorem s_lawCell (d : Nat) {S : mS} {I : mI} {L : mJ} (G : Gd S) {u p : Nat} (hu : I 17 2 = nI u) (hu2 : u ≤ 432) (hp : p < 1000) : evM zcod (d + 1) 17 [.ref 17, .int (nI p)] (S, I, L) = some (some (.int (if p < u then I 18 p else -6)), (S, I, L)) := by
  rw [E_X3_cell]
  simp only [B_X3_cell_0, B_X3_cell_21, B_X3_cell_23, gLaw G, if_true, true_and, hu]
  rw [if_neg (n_pos (n := p) (by omega))]
  by_cases c : u ≤ p
  · rw [if_pos (nI_le c (by omega)), if_neg (by omega)]
  · rw [if_neg (nI_ge (by omega) (by omega)), if_pos (ixP (by omega) (by omega)), ixI (by omega), if_pos (by omega)]
theorem s_lawSize (d : Nat) {S : mS} {I : mI} {L : mJ} (G : Gd S) : evM zcod (d + 1) 18 [.ref 17] (S, I, L) = some (some (.int (I 17 2)), (S, I, L)) := by
  rw [E_X3_size]
  simp only [B_X3_size_0, gLaw G, if_true]
theorem s_lawStart (d : Nat) {S : mS} {I : mI} {L : mJ} (G : Gd S) {k : Nat} (hk : k < 4) : evM zcod (d + 1) 13 [.ref 17, .int (nI k)] (S, I, L) = some (some (.int (I 19 k)), (S, I, L)) := by
  rw [E_X3_startOf]
  simp only [B_X3_startOf_0, B_X3_startOf_22, B_X3_startOf_26, gLaw G, if_true, true_and]
  rw [if_neg (n_pos (n := k) (by omega)), if_neg (nI_ge hk (by omega)), if_pos (ixP (by omega) (by omega)), ixI (by omega)]
theorem s_onStack (d : Nat) {S : mS} {I : mI} {L : mJ} (G : Gd S) {p : Nat} (hp : p < 24) : evM zcod (d + 1) 77 [.ref 53, .int (nI p)] (S, I, L) = some (some (.int (I 55 p)), (S, I, L)) := by
  rw [E_X7_onStack]
  simp only [B_X7_onStack_0, B_X7_onStack_22, B_X7_onStack_23, gSky G, if_true, true_and]
  rw [if_neg (n_pos (n := p) (by omega)), if_neg (nI_ge hp (by omega)), if_pos (ixP (by omega) (by omega)), ixI (by omega)]
theorem s_onStackM (d : Nat) {S : mS} {I : mI} {L : mJ} (G : Gd S) {x : Int32} (hx : x < nI 0) : evM zcod (d + 1) 77 [.ref 53, .int x] (S, I, L) = some (some (.int (nI 0)), (S, I, L)) := by
  rw [E_X7_onStack]
  simp only [B_X7_onStack_0, B_X7_onStack_22, B_X7_onStack_23, gSky G, if_true, true_and]
  rw [if_pos hx]
theorem var_of : ∀ k, k < 9 → (-10 : Int32) - (-10 - nI k) = nI k := by decide +kernel
theorem s_varOf (d : Nat) {S : mS} {I : mI} {L : mJ} (G : Gd S) {k : Nat} (hk : k < 9) : evM zcod (d + 1) 76 [.ref 53, .int (-10 - nI k)] (S, I, L) = some (some (.int (I 54 k)), (S, I, L)) := by
  rw [E_X7_varOf]
  simp only [B_X7_varOf_0, B_X7_varOf_27, B_X7_varOf_28, gSky G, if_true, true_and, var_of k hk]
  rw [if_neg (n_pos (n := k) (by omega)), if_neg (nI_ge hk (by omega)), if_pos (ixP (by omega) (by omega)), ixI (by omega)]
/-- what an operator makes of two: -1 + -2 - -3 * else / -/
def jnS (op a b : Int32) : Int32 := if op = -3 then a * b else if op = -2 then a - b else if op = -1 then a + b else if b = nI 0 then nI 0 else a / b
theorem s_joined (d : Nat) {S : mS} {I : mI} {L : mJ} (op a b : Int32) : evM zcod (d + 1) 78 [.int op, .int a, .int b] (S, I, L) = some (some (.int (jnS op a b)), (S, I, L)) := by
  rw [E_X7_joined]
  simp only [B_X7_joined_0, B_X7_joined_28, B_X7_joined_32, B_X7_joined_36, B_X7_joined_40, B_X7_joined_48, B_X7_joined_51]
  unfold jnS
  by_cases c1 : op = -3
  · rw [if_pos c1, if_pos c1]
  · rw [if_neg c1, if_neg c1]
    by_cases c2 : op = -2
    · rw [if_pos c2, if_pos c2]
    · rw [if_neg c2, if_neg c2]
      by_cases c3 : op = -1
      · rw [if_pos c3, if_pos c3]
      · rw [if_neg c3, if_neg c3]
        by_cases c4 : b = nI 0
        · rw [if_neg (fun q => q c4), if_pos c4]
        · rw [if_pos c4, if_neg c4, if_neg c4]
