/-! Things -/
theorem b1 (p : Prop) : (p ∨ True) = True := or_true p
theorem b0 (p : Prop) : (True ∨ p) = True := true_or p
theorem n_pos {n : Nat} (h : n < 2 ^ 31) : ¬ nI n < nI 0 := nI_nlt (Nat.zero_le n) h
theorem n10 : (nI 1 = nI 0) = False := eq_false (by decide +kernel)
theorem n01 : (nI 0 = nI 1) = False := eq_false (by decide +kernel)
/-- the Things at t, cells at c: m at most, w wide, n there -/
def Tg (S : mS) (I : mI) (t c m w n : Nat) : Prop := kK S t = 9 ∧ kR S t 2 = c ∧ kK S c = 20 ∧ m * w ≤ kN S c ∧ I t 0 = nI m ∧ I t 1 = nI w ∧ I t 3 = nI n ∧ n ≤ m ∧ m ≤ 100 ∧ w ≤ 100
def inN (i : Int32) (n : Nat) : Bool := decide (0 ≤ i.toInt) && decide (i.toInt < (n : Int))
theorem inN_nI {k n : Nat} (h : k < 2147483648) : inN (nI k) n = decide (k < n) := by
  unfold inN
  rw [t_nI h]
  simp only [Int.ofNat_lt]
  rw [decide_eq_true (by omega : (0 : Int) ≤ (k : Int)), Bool.true_and]
theorem inN_of {i : Int32} {n : Nat} (h : inN i n = true) : ∃ k, k < n ∧ i = nI k := by
  unfold inN at h
  simp only [Bool.and_eq_true, decide_eq_true_eq] at h
  exact i_of2 h.1 h.2
theorem inN_not {i : Int32} {n : Nat} (h : ¬ inN i n = true) (hn : n < 2147483648) : i < nI 0 ∨ nI n ≤ i := by
  unfold inN at h
  simp only [Bool.and_eq_true, decide_eq_true_eq] at h
  rw [i_lt, i_le, t_nI (by omega), t_nI hn]
  omega
def tat (f : Nat → Int32) (w n : Nat) (i x : Int32) : Int32 := if inN i n = true ∧ inN x w = true then f (i.toInt.toNat * w + x.toInt.toNat) else -1
theorem tat_in {f : Nat → Int32} {w n a b : Nat} (ha : a < n) (hb : b < w) (hn : n < 2147483648) (hw : w < 2147483648) : tat f w n (nI a) (nI b) = f (a * w + b) := by
  unfold tat
  rw [inN_nI (by omega), inN_nI (by omega), decide_eq_true ha, decide_eq_true hb, if_pos ⟨rfl, rfl⟩, t_nI (by omega), t_nI (by omega)]
  rfl
theorem tat_out {f : Nat → Int32} {w n : Nat} {i x : Int32} (h : ¬ inN i n = true) : tat f w n i x = -1 := if_neg (fun (q : inN i n = true ∧ inN x w = true) => h q.1)
theorem tat_out2 {f : Nat → Int32} {w n : Nat} {i x : Int32} (h : ¬ inN x w = true) : tat f w n i x = -1 := if_neg (fun (q : inN i n = true ∧ inN x w = true) => h q.2)
theorem s_size (d : Nat) {S : mS} {I : mI} {L : mJ} {t c m w n : Nat} (h : Tg S I t c m w n) : evM zcod (d + 1) 1 [.ref t] (S, I, L) = some (some (.int (nI n)), (S, I, L)) := by
  obtain ⟨h1, h2, h3, h4, h5, h6, h7, h8, h9, h10⟩ := h
  rw [E_X9_size]
  simp only [B_X9_size_0, h1, h7, if_true]
theorem s_has (d : Nat) {S : mS} {I : mI} {L : mJ} {t c m w n : Nat} (h : Tg S I t c m w n) (i : Int32) : evM zcod (d + 1) 2 [.ref t, .int i] (S, I, L) = some (some (.int (if inN i n = true then nI 1 else nI 0)), (S, I, L)) := by
  obtain ⟨h1, h2, h3, h4, h5, h6, h7, h8, h9, h10⟩ := h
  rw [E_X9_has]
  simp only [B_X9_has_0, B_X9_has_16, B_X9_has_17, h1, h7, if_true, b1, b0]
  by_cases c : inN i n = true
  · obtain ⟨k, hk, rfl⟩ := inN_of c
    rw [if_pos c, if_neg (n_pos (n := k) (by omega)), if_neg (nI_ge hk (by omega))]
  · rw [if_neg c]
    rcases inN_not c (by omega) with q | q
    · rw [if_pos q]
    · rw [if_pos q, ite_self]
theorem s_isFull (d : Nat) {S : mS} {I : mI} {L : mJ} {t c m w n : Nat} (h : Tg S I t c m w n) : evM zcod (d + 1) 3 [.ref t] (S, I, L) = some (some (.int (if n < m then nI 0 else nI 1)), (S, I, L)) := by
  obtain ⟨h1, h2, h3, h4, h5, h6, h7, h8, h9, h10⟩ := h
  rw [E_X9_isFull]
  simp only [B_X9_isFull_0, B_X9_isFull_15, B_X9_isFull_16, h1, h5, h7, if_true, b1, b0]
  by_cases c : n < m
  · rw [if_pos c, if_pos (nI_lt c (by omega))]
  · rw [if_neg c, if_neg (nI_nlt (by omega) (by omega))]
theorem s_clear (d : Nat) {S : mS} {I : mI} {L : mJ} {t : Nat} (h : kK S t = 9) : evM zcod (d + 1) 4 [.ref t] (S, I, L) = some (none, (S, uI I t 3 (nI 0), L)) := by
  rw [E_X9_clear]
  simp only [B_X9_clear_0, h, if_true]
theorem s_at (d : Nat) {S : mS} {I : mI} {L : mJ} {t c m w n : Nat} (h : Tg S I t c m w n) (i x : Int32) : evM zcod (d + 1) 5 [.ref t, .int i, .int x] (S, I, L) = some (some (.int (tat (I c) w n i x)), (S, I, L)) := by
  obtain ⟨h1, h2, h3, h4, h5, h6, h7, h8, h9, h10⟩ := h
  rw [E_X9_at]
  simp only [B_X9_at_0, B_X9_at_40, B_X9_at_41, h1, h2, h3, h6, h7, if_true, true_and]
  by_cases c1 : inN i n = true
  · obtain ⟨k, hk, rfl⟩ := inN_of c1
    rw [if_neg (n_pos (n := k) (by omega)), if_neg (nI_ge hk (by omega))]
    by_cases c2 : inN x w = true
    · obtain ⟨j, hj, rfl⟩ := inN_of c2
      have e : k * w + j < m * w := by
        have : k * w + w ≤ m * w := by rw [← Nat.succ_mul]; exact Nat.mul_le_mul_right w (by omega)
        omega
      have e2 : m * w ≤ 10000 := Nat.mul_le_mul h9 h10
      rw [if_neg (n_pos (n := j) (by omega)), if_neg (nI_ge hj (by omega)), pk_mul, nI_add, if_pos ((zin_nI (by omega)).mpr (by omega)), tat_in hk hj (by omega) (by omega), zix_nI (by omega)]
    · rw [tat_out2 c2]
      rcases inN_not c2 (by omega) with q | q
      · rw [if_pos q]
      · rw [if_pos q, ite_self]
  · rw [tat_out c1]
    rcases inN_not c1 (by omega) with q | q
    · rw [if_pos q]
    · rw [if_pos q, ite_self]
/-- what stands at a known place -/
theorem s_atN (d : Nat) {S : mS} {I : mI} {L : mJ} {t c m w n : Nat} (h : Tg S I t c m w n) {a b : Nat} (ha : a < n) (hb : b < w) : evM zcod (d + 1) 5 [.ref t, .int (nI a), .int (nI b)] (S, I, L) = some (some (.int (I c (a * w + b))), (S, I, L)) := by
  have h8 := h.2.2.2.2.2.2.2
  rw [s_at d h, tat_in ha hb (by omega) (by omega)]
theorem s_putN (d : Nat) {S : mS} {I : mI} {L : mJ} {t c m w n : Nat} (h : Tg S I t c m w n) {a b : Nat} (ha : a < n) (hb : b < w) (x : Int32) : evM zcod (d + 1) 6 [.ref t, .int (nI a), .int (nI b), .int x] (S, I, L) = some (none, (S, uI I c (a * w + b) x, L)) := by
  obtain ⟨h1, h2, h3, h4, h5, h6, h7, h8, h9, h10⟩ := h
  have e : a * w + b < m * w := by
    have : a * w + w ≤ m * w := by rw [← Nat.succ_mul]; exact Nat.mul_le_mul_right w (by omega)
    omega
  have e2 : m * w ≤ 10000 := Nat.mul_le_mul h9 h10
  rw [E_X9_put]
  simp only [B_X9_put_0, B_X9_put_38, h1, h2, h3, h6, h7, if_true, true_and]
  rw [if_neg (n_pos (n := a) (by omega)), if_neg (nI_ge ha (by omega)), if_neg (n_pos (n := b) (by omega)), if_neg (nI_ge hb (by omega)), pk_mul, nI_add, if_pos ((zin_nI (by omega)).mpr (by omega)), zix_nI (by omega)]
/-- an index that isn't one: nothing is put -/
theorem s_putX (d : Nat) {S : mS} {I : mI} {L : mJ} {t c m w n : Nat} (h : Tg S I t c m w n) {i : Int32} (hi : ¬ inN i n = true) (b x : Int32) : evM zcod (d + 1) 6 [.ref t, .int i, .int b, .int x] (S, I, L) = some (none, (S, I, L)) := by
  obtain ⟨h1, h2, h3, h4, h5, h6, h7, h8, h9, h10⟩ := h
  rw [E_X9_put]
  simp only [B_X9_put_0, B_X9_put_38, h1, h7, if_true]
  rcases inN_not hi (by omega) with q | q
  · rw [if_pos q]
  · rw [if_pos q, ite_self]
theorem Tg.fi {S : mS} {I J : mI} {t c m w n : Nat} (h : Tg S I t c m w n) (e0 : J t 0 = I t 0) (e1 : J t 1 = I t 1) (e3 : J t 3 = I t 3) : Tg S J t c m w n := by
  obtain ⟨h1, h2, h3, h4, h5, h6, h7, h8, h9, h10⟩ := h
  exact ⟨h1, h2, h3, h4, e0.trans h5, e1.trans h6, e3.trans h7, h8, h9, h10⟩
/-- one more, all of it 0; or full: -1 -/
theorem s_addX (d : Nat) {S : mS} {I : mI} {L : mJ} {t c m w n : Nat} (h : Tg S I t c m w n) (hn : ¬ n < m) : evM zcod (d + 2) 7 [.ref t] (S, I, L) = some (some (.int (-1)), (S, I, L)) := by
  rw [E_X9_add]
  simp only [B_X9_add_0, h.1, if_true, s_isFull d h, if_neg hn, bI_eq, n10, if_false]
theorem s_add (d : Nat) {S : mS} {I : mI} {L : mJ} {t c m w n : Nat} (h : Tg S I t c m w n) (hn : n < m) (htc : t ≠ c) : ∃ J, evM zcod (d + 2) 7 [.ref t] (S, I, L) = some (some (.int (nI n)), (S, J, L)) ∧ Fi (fun a j => a = t ∧ j = 3 ∨ a = c ∧ n * w ≤ j ∧ j < n * w + w) I J ∧ Tg S J t c m w (n + 1) ∧ ∀ b, b < w → J c (n * w + b) = nI 0 := by
  have hT : Tg S (uI I t 3 (nI (n + 1))) t c m w (n + 1) := by
    obtain ⟨h1, h2, h3, h4, h5, h6, h7, h8, h9, h10⟩ := h
    refine ⟨h1, h2, h3, h4, ?_, ?_, uI_same _ _ _ _, by omega, h9, h10⟩
    · rw [uI_ix (by omega)]; exact h5
    · rw [uI_ix (by omega)]; exact h6
  have key : ∀ k, k ≤ w → ∀ J, Tg S J t c m w (n + 1) → (∀ b, b < w - k → J c (n * w + b) = nI 0) → ∃ J', evk zcod none (d + 1) zc_X9_add 21 [(0, .ref t), (1, .int (nI (w - k)))] [] (S, J, L) = some (some (.int (nI n)), (S, J', L)) ∧ Fi (fun a j => a = c ∧ n * w ≤ j ∧ j < n * w + w) J J' ∧ Tg S J' t c m w (n + 1) ∧ ∀ b, b < w → J' c (n * w + b) = nI 0 := by
    intro k
    have hw := h.2.2.2.2.2.2.2.2.2
    induction k with
    | zero =>
      intro _ J hJ hb
      refine ⟨J, ?_, Fi.rf, hJ, fun b q => hb b (by omega)⟩
      simp only [B_X9_add_21, B_X9_add_47, hJ.1, hJ.2.2.2.2.2.1, hJ.2.2.2.2.2.2.1, if_true]
      rw [if_pos (nI_le (by omega) (by omega)), pk_sub (by omega)]
      rfl
    | succ k ih =>
      intro hk J hJ hb
      have ht3 : Tg S (uI J c (n * w + (w - (k + 1))) (nI 0)) t c m w (n + 1) := hJ.fi (uI_off htc) (uI_off htc) (uI_off htc)
      obtain ⟨J', e1, e2, e3, e4⟩ := ih (by omega) (uI J c (n * w + (w - (k + 1))) (nI 0)) ht3 (fun b q => by
        by_cases hb' : b = w - (k + 1)
        · rw [hb']; exact uI_same _ _ _ _
        · rw [uI_ix (by omega)]; exact hb b (by omega))
      refine ⟨J', ?_, (Fi.u Fi.rf ⟨rfl, by omega, by omega⟩).tr e2, e3, e4⟩
      rw [← e1]
      rw [B_X9_add_21]
      simp only [hJ.1, hJ.2.2.2.2.2.1, hJ.2.2.2.2.2.2.1, if_true]
      rw [if_neg (nI_ge (by omega) (by omega)), pk_sub (by omega), Nat.add_sub_cancel, s_putN d hJ (by omega) (by omega)]
      simp only [bV_eq, if_true]
      rw [nI_add, show w - (k + 1) + 1 = w - k from by omega]
  obtain ⟨J', e1, e2, e3, e4⟩ := key w (Nat.le_refl w) (uI I t 3 (nI (n + 1))) hT (fun b q => by omega)
  refine ⟨J', ?_, (Fi.u Fi.rf (Or.inl ⟨rfl, rfl⟩)).tr (e2.up fun a j q => Or.inr q), e3, e4⟩
  rw [← e1, E_X9_add]
  simp only [B_X9_add_0, B_X9_add_9, h.1, h.2.2.2.2.2.2.1, if_true, s_isFull d h, if_pos hn, bI_eq]
  rw [nI_add, Nat.sub_self]
