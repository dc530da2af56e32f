/-! the reference: rows, laws looked at -/
/-- what the reference knows of a plan: live, its numbers, its laws -/
def MC (S : mS) (I : mI) (P : mP) (v : Nat) : Prop := v < 2 ∧ I 384 18 = nI v ∧ I 393 v = nI (nLo P) ∧ I 397 v = nI (nSi P) ∧ I 400 v = nI (nHo P) ∧ I 404 v = sta P 0 ∧ I 405 v = sta P 1 ∧ I 406 v = sta P 2 ∧ (∀ i, i < nLo P → I 395 (7 * v + i) = sta P (10 + i) ∧ I 396 (7 * v + i) = sta P (20 + i)) ∧ (∀ k, k < nSi P → I 398 (5 * v + k) = sta P (30 + k)) ∧ (∀ h, h < nHo P → I 402 (5 * v + h) = sta P (40 + h) ∧ I 403 (5 * v + h) = sta P (50 + h)) ∧ LawM S P I
def RW (I : mI) (r : mW) : Prop := ∀ j, j < 58 → I 420 j = r j
def NW (I : mI) (r : mW) : Prop := ∀ j, j < 58 → I 419 j = r j
theorem LawM.fi {S : mS} {P : mP} {I J : mI} (h : LawM S P I) (e1 : J 384 18 = I 384 18) (e2 : ∀ a, 407 ≤ a → a ≤ 415 → J a = I a) : LawM S P J := fun k hk K d L q1 q2 => h k hk K d L (q1.trans e1) (fun a x y => (q2 a x y).trans (e2 a x y))
/-- places that hold nothing that lasts, of the reference -/
def mj (a j : Nat) : Prop := a = 384 ∧ (j = 51 ∨ j = 54 ∨ 61 ≤ j ∧ j ≤ 66 ∨ j = 68 ∨ j = 71 ∨ j = 72) ∨ a = 417 ∨ a = 418 ∨ 420 ≤ a ∧ a ≤ 424 ∨ 426 ≤ a ∧ a ≤ 429
theorem MC.fi {S : mS} {I J : mI} {P : mP} {v : Nat} (h : MC S I P v) (f : Fi mj I J) : MC S J P v := by
  obtain ⟨h0, h1, h2, h3, h4, h5, h6, h7, h8, h9, h10, h11⟩ := h
  have e : ∀ a, 385 ≤ a → a ≤ 416 → J a = I a := fun a x y => f.row a fun j => by unfold mj; omega
  have e18 : J 384 18 = I 384 18 := f 384 18 (by unfold mj; omega)
  refine ⟨h0, e18.trans h1, ?_, ?_, ?_, ?_, ?_, ?_, ?_, ?_, ?_, h11.fi e18 fun a x y => e a (by omega) (by omega)⟩
  · rw [e 393 (by omega) (by omega)]; exact h2
  · rw [e 397 (by omega) (by omega)]; exact h3
  · rw [e 400 (by omega) (by omega)]; exact h4
  · rw [e 404 (by omega) (by omega)]; exact h5
  · rw [e 405 (by omega) (by omega)]; exact h6
  · rw [e 406 (by omega) (by omega)]; exact h7
  · rw [e 395 (by omega) (by omega), e 396 (by omega) (by omega)]; exact h8
  · rw [e 398 (by omega) (by omega)]; exact h9
  · rw [e 402 (by omega) (by omega), e 403 (by omega) (by omega)]; exact h10
theorem zv2 {v : Nat} (h : v < 2) : zix (nI v) = v ∧ (zin (nI v) 2 = True) := ⟨zix_nI (by omega), eq_true ((zin_nI (by omega)).mpr h)⟩
theorem ixP {a N : Nat} (h : a < N) (hN : N < 2147483648) : zin (nI a) N := (zin_nI (by omega)).mpr h
theorem ixT {a N : Nat} (h : a < N) (hN : N < 2147483648) : zin (nI a) N = True := eq_true (ixP h hN)
theorem zt9 : (zin (nI 0) 9 = True) ∧ (zin (nI 1) 9 = True) ∧ (zin (nI 2) 9 = True) ∧ (zin (nI 3) 9 = True) ∧ (zin (nI 4) 9 = True) ∧ (zin (nI 5) 9 = True) ∧ (zin (nI 6) 9 = True) ∧ (zin (nI 7) 9 = True) ∧ (zin (nI 8) 9 = True) := by
  refine ⟨?_, ?_, ?_, ?_, ?_, ?_, ?_, ?_, ?_⟩ <;> exact ixT (by decide) (by decide)
theorem zt58 : (zin (nI 55) 58 = True) ∧ (zin (nI 56) 58 = True) ∧ (zin (nI 57) 58 = True) := by
  refine ⟨?_, ?_, ?_⟩ <;> exact ixT (by decide) (by decide)
theorem ixI {a : Nat} (h : a < 2147483648) : zix (nI a) = a := zix_nI h
theorem m_in (d : Nat) {S : mS} {I : mI} {L : mJ} (x lo hi : Int32) : evM zcod (d + 1) 191 [.int x, .int lo, .int hi] (S, I, L) = some (some (.int (if okI x lo hi = true then nI 1 else nI 0)), (S, I, L)) := by
  rw [E_X12_in]
  simp only [B_X12_in_0, B_X12_in_14, B_X12_in_15, b0, b1, if_true]
  unfold okI
  simp only [i_lt, i_le, decide_eq_true_eq]
  by_cases c1 : x.toInt < lo.toInt
  · rw [if_pos c1, if_neg (by omega)]
  · by_cases c2 : hi.toInt < x.toInt
    · rw [if_neg c1, if_pos c2, if_neg (by omega)]
    · rw [if_neg c1, if_neg c2, if_pos (by omega)]
theorem m_held (d : Nat) {S : mS} {I : mI} {L : mJ} (x lo hi : Int32) : evM zcod (d + 1) 192 [.int x, .int lo, .int hi] (S, I, L) = some (some (.int (hld x lo hi)), (S, I, L)) := by
  rw [E_X12_held]
  simp only [B_X12_held_0, B_X12_held_9, B_X12_held_18, B_X12_held_19]
  unfold hld
  simp only [i_lt, i_le]
  by_cases c1 : x.toInt < lo.toInt
  · rw [if_neg (by omega), if_pos c1]
  · rw [if_pos (by omega), if_neg c1]
    by_cases c2 : hi.toInt < x.toInt
    · rw [if_neg (by omega), if_pos c2]
    · rw [if_pos (by omega), if_neg c2]
theorem m_off (d : Nat) {S : mS} {I : mI} {L : mJ} (x y : Int32) : evM zcod (d + 1) 194 [.int x, .int y] (S, I, L) = some (some (.int (hoff x y)), (S, I, L)) := by
  rw [E_X12_off]
  simp only [B_X12_off_0, B_X12_off_11, B_X12_off_14]
  unfold hoff
  simp only [i_lt, i_le]
  by_cases c1 : x.toInt < y.toInt
  · rw [if_neg (by omega), if_pos c1]
  · rw [if_pos (by omega), if_neg c1]
theorem m_bits (d : Nat) {S : mS} {I : mI} {L : mJ} {b : Nat} (hb : b < 128) : evM zcod (d + 1) 193 [.int (nI b)] (S, I, L) = some (some (.int (nI (pc b 7))), (S, I, L)) := by
  have key : ∀ k i, i + k = 7 → evk zcod none d zc_X12_bits 4 [(0, .int (nI b)), (1, .int (nI (pc b i))), (2, .int (nI i))] [] (S, I, L) = some (some (.int (nI (pc b 7))), (S, I, L)) := by
    intro k
    induction k with
    | zero =>
      intro i hi
      rw [B_X12_bits_4, if_pos (nI_le (by omega) (by omega)), B_X12_bits_24, show i = 7 by omega]
    | succ k ih =>
      intro i hi
      rw [B_X12_bits_4, if_neg (nI_ge (by omega) (by omega)), shr_bit i (by omega) b (by omega), nI_add, nI_add]
      exact ih (i + 1) (by omega)
  rw [E_X12_bits, B_X12_bits_0]
  exact key 7 0 (by omega)
theorem okI_has {i : Int32} {n : Nat} (hn : n < 100) : okI i (nI 0) (nI n - nI 1) = inN i n := by
  have e : (nI n - nI 1).toInt = (n : Int) - 1 := pk_sub_toInt (by omega) (by omega)
  unfold okI inN
  rw [← Bool.decide_and]
  refine decide_eq_decide.mpr ?_
  rw [i_le, i_le, e, t_nI (by omega)]
  omega
theorem m_isLoad (d : Nat) {S : mS} {I : mI} {L : mJ} {P : mP} {v : Nat} (G : Gd S) (hv : PV P) (h : MC S I P v) (i : Int32) : evM zcod (d + 2) 195 [.ref 384, .int i] (S, I, L) = some (some (.int (if inN i (nLo P) = true then nI 1 else nI 0)), (S, I, L)) := by
  have v1 := hv.1
  rw [E_X12_isLoad]
  simp only [B_X12_isLoad_0, gM G, if_true, true_and, h.2.1, zv2 h.1, h.2.2.1, m_in, bI_eq]
  rw [okI_has (by omega)]
  cases inN i (nLo P) <;> simp
theorem m_isSilk (d : Nat) {S : mS} {I : mI} {L : mJ} {P : mP} {v : Nat} (G : Gd S) (hv : PV P) (h : MC S I P v) (i : Int32) : evM zcod (d + 2) 196 [.ref 384, .int i] (S, I, L) = some (some (.int (if inN i (nSi P) = true then nI 1 else nI 0)), (S, I, L)) := by
  have v1 := hv.2.1
  rw [E_X12_isSilk]
  simp only [B_X12_isSilk_0, gM G, if_true, true_and, h.2.1, zv2 h.1, h.2.2.2.1, m_in, bI_eq]
  rw [okI_has (by omega)]
  cases inN i (nSi P) <;> simp
theorem m_isHook (d : Nat) {S : mS} {I : mI} {L : mJ} {P : mP} {v : Nat} (G : Gd S) (hv : PV P) (h : MC S I P v) (i : Int32) : evM zcod (d + 2) 197 [.ref 384, .int i] (S, I, L) = some (some (.int (if inN i (nHo P) = true then nI 1 else nI 0)), (S, I, L)) := by
  have v1 := hv.2.2.1
  rw [E_X12_isHook]
  simp only [B_X12_isHook_0, gM G, if_true, true_and, h.2.1, zv2 h.1, h.2.2.2.2.1, m_in, bI_eq]
  rw [okI_has (by omega)]
  cases inN i (nHo P) <;> simp
/-- row is now's -/
theorem m_copies (d : Nat) {S : mS} {I : mI} {L : mJ} {P : mP} {v : Nat} {r : mW} (G : Gd S) (h : MC S I P v) (hn : NW I r) : ∃ J, evM zcod (d + 1) 200 [.ref 384] (S, I, L) = some (none, (S, J, L)) ∧ RW J r ∧ J 384 54 = sta P 2 ∧ Fi (fun a j => a = 420 ∨ a = 384 ∧ j = 54) I J := by
  have key : ∀ k i, i + k = 58 → ∀ I : mI, MC S I P v → NW I r → (∀ j, j < i → I 420 j = r j) → ∃ J, evk zcod none d zc_X12_copies 2 [(0, .ref 384), (1, .int (nI i))] [] (S, I, L) = some (none, (S, J, L)) ∧ RW J r ∧ J 384 54 = sta P 2 ∧ Fi (fun a j => a = 420 ∨ a = 384 ∧ j = 54) I J := by
    intro k
    induction k with
    | zero =>
      intro i hi I h hn hj
      refine ⟨uI I 384 54 (sta P 2), ?_, fun j q => by rw [uI_off (by omega)]; exact hj j (by omega), uI_same _ _ _ _, Fi.u Fi.rf (Or.inr ⟨rfl, rfl⟩)⟩
      rw [B_X12_copies_2, if_pos (nI_le (by omega) (by omega)), B_X12_copies_26]
      simp only [gM G, if_true, true_and, h.2.1, zv2 h.1, h.2.2.2.2.2.2.2.1]
    | succ k ih =>
      intro i hi I h hn hj
      have f0 : Fi mj I (uI I 420 i (r i)) := Fi.u Fi.rf (by unfold mj; omega)
      obtain ⟨J, e, z1, z2, z3⟩ := ih (i + 1) (by omega) (uI I 420 i (r i)) (h.fi f0) (fun j q => (uI_off (by omega)).trans (hn j q)) (fun j q => by
        by_cases w : j = i
        · rw [w]; exact uI_same _ _ _ _
        · rw [uI_ix w]; exact hj j (by omega))
      refine ⟨J, ?_, z1, z2, (Fi.u Fi.rf (Or.inl rfl)).tr z3⟩
      rw [B_X12_copies_2, if_neg (nI_ge (by omega) (by omega))]
      simp only [gM G, if_true, true_and]
      rw [if_pos (ixP (by omega) (by omega)), if_pos (ixP (by omega) (by omega)), ixI (by omega), hn i (by omega), nI_add]
      exact e
  obtain ⟨J, e, z⟩ := key 58 0 (by omega) I h hn (fun j q => by omega)
  refine ⟨J, ?_, z⟩
  rw [← e, E_X12_copies, B_X12_copies_0]
/-- now is row's -/
theorem m_keeps (d : Nat) {S : mS} {I : mI} {L : mJ} {r : mW} (G : Gd S) (hr : RW I r) : ∃ J, evM zcod (d + 1) 199 [.ref 384] (S, I, L) = some (none, (S, J, L)) ∧ NW J r ∧ Fi (fun a _ => a = 419) I J := by
  have key : ∀ k i, i + k = 58 → ∀ I : mI, RW I r → (∀ j, j < i → I 419 j = r j) → ∃ J, evk zcod none d zc_X12_keepsRow 2 [(0, .ref 384), (1, .int (nI i))] [] (S, I, L) = some (none, (S, J, L)) ∧ NW J r ∧ Fi (fun a _ => a = 419) I J := by
    intro k
    induction k with
    | zero =>
      intro i hi I h hj
      refine ⟨I, ?_, fun j q => hj j (by omega), Fi.rf⟩
      rw [B_X12_keepsRow_2, if_pos (nI_le (by omega) (by omega)), B_X12_keepsRow_26]
    | succ k ih =>
      intro i hi I h hj
      obtain ⟨J, e, z1, z2⟩ := ih (i + 1) (by omega) (uI I 419 i (r i)) (fun j q => (uI_off (by omega)).trans (h j q)) (fun j q => by
        by_cases w : j = i
        · rw [w]; exact uI_same _ _ _ _
        · rw [uI_ix w]; exact hj j (by omega))
      refine ⟨J, ?_, z1, (Fi.u (A := fun a _ => a = 419) Fi.rf rfl).tr z2⟩
      rw [B_X12_keepsRow_2, if_neg (nI_ge (by omega) (by omega))]
      simp only [gM G, if_true, true_and]
      rw [if_pos (ixP (by omega) (by omega)), if_pos (ixP (by omega) (by omega)), ixI (by omega), h i (by omega), nI_add]
      exact e
  obtain ⟨J, e, z⟩ := key 58 0 (by omega) I hr (fun j q => by omega)
  refine ⟨J, ?_, z⟩
  rw [← e, E_X12_keepsRow, B_X12_keepsRow_0]
theorem m_mixed (d : Nat) {S : mS} {I : mI} {L : mJ} (h v : Int32) : evM zcod (d + 1) 201 [.int h, .int v] (S, I, L) = some (some (.int (stir h v)), (S, I, L)) := by
  rw [E_X12_mixed, B_X12_mixed_0]
  rfl
theorem m_gust (d : Nat) {S : mS} {I : mI} {L : mJ} {P : mP} {v : Nat} {r : mW} (G : Gd S) (h : MC S I P v) (hr : RW I r) {sd : Int32} (hs : I 384 54 = sd) : evM zcod (d + 2) 202 [.ref 384] (S, I, L) = some (some (.int (if gustS P sd (r 55) = true then nI 1 else nI 0)), (S, I, L)) := by
  rw [E_X12_isGust]
  simp only [B_X12_isGust_0, B_X12_isGust_42, B_X12_isGust_43, gM G, if_true, true_and, m_mixed, bI_eq, n100, if_false, h.2.1, zv2 h.1, h.2.2.2.2.2.2.1, zt58, zx, hs, hr 55 (by omega), b0, b1]
  unfold gustS
  by_cases c : zrem (((stir (stir sd (nI 113)) ((nI 4) * r 55)).toUInt32 >>> ((nI 1).toUInt32 &&& 31)).toInt32) (nI 100) < sta P 1
  · rw [if_pos (decide_eq_true c), if_neg (by rw [i_le]; rw [i_lt] at c; omega)]
  · rw [if_pos (by rw [i_le]; rw [i_lt] at c; omega), if_neg (by rw [decide_eq_false c]; decide)]
theorem m_loadsSo (d : Nat) {S : mS} {I : mI} {L : mJ} {P : mP} {v : Nat} {r : mW} (G : Gd S) (hv : PV P) (h : MC S I P v) (hr : RW I r) (s : Int32) : evM zcod (d + 1) 203 [.ref 384, .int s] (S, I, L) = some (some (.int (nI (soB P r s))), (S, I, L)) := by
  have v1 := hv.1
  have key : ∀ k i, i + k = nLo P → evk zcod none d zc_X12_loadsSo 4 [(0, .ref 384), (1, .int s), (2, .int (nI (bs (isS r s) i))), (3, .int (nI i))] [] (S, I, L) = some (some (.int (nI (soB P r s))), (S, I, L)) := by
    intro k
    induction k with
    | zero =>
      intro i hi
      rw [B_X12_loadsSo_4]
      simp only [gM G, if_true, true_and, h.2.1, zv2 h.1, h.2.2.1, B_X12_loadsSo_42]
      rw [if_pos (nI_le (by omega) (by omega))]
      unfold soB
      rw [show nLo P = i from by omega]
    | succ k ih =>
      intro i hi
      rw [B_X12_loadsSo_4]
      simp only [gM G, if_true, true_and, h.2.1, zv2 h.1, h.2.2.1, nI_add]
      rw [if_neg (nI_ge (by omega) (by omega)), if_pos (ixP (by omega) (by omega)), ixI (by omega), hr (7 + i) (by omega)]
      simp only [B_X12_loadsSo_36, nI_add]
      by_cases c : r (7 + i) = s
      · rw [if_neg (fun q => q c), bs_or (by omega) (decide_eq_true c)]
        exact ih (i + 1) (by omega)
      · rw [if_pos c, bs_no (P := isS r s) (fun q => c (of_decide_eq_true q))]
        exact ih (i + 1) (by omega)
  rw [E_X12_loadsSo, B_X12_loadsSo_0]
  exact key (nLo P) 0 (by omega)
theorem m_upNow (d : Nat) {S : mS} {I : mI} {L : mJ} {P : mP} {v : Nat} {r : mW} (G : Gd S) (hv : PV P) (h : MC S I P v) (hr : RW I r) : evM zcod (d + 2) 204 [.ref 384] (S, I, L) = some (some (.int (upS P r)), (S, I, L)) := by
  rw [E_X12_upNow]
  simp only [B_X12_upNow_0, gM G, if_true, m_loadsSo _ G hv h hr, bI_eq, m_bits _ (bs_128 _ hv.1), soB, upS, soN, pc_cn hv.1]
/-! laws -/
def lkA (a _ : Nat) : Prop := a = 417
theorem m_looks (d : Nat) {S : mS} {I : mI} {L : mJ} {P : mP} {v : Nat} {r : mW} (G : Gd S) (hv : PV P) (h : MC S I P v) (hr : RW I r) (hour up : Int32) : ∃ J, evM zcod (d + 2) 205 [.ref 384, .int hour, .int up] (S, I, L) = some (none, (S, J, L)) ∧ (∀ k, k < 9 → J 417 k = vv hour up (stS P r) 0 0 0 0 0 k) ∧ Fi lkA I J := by
  have key : ∀ k i, i + k = 9 → ∀ I : mI, MC S I P v → RW I r → (∀ j, j < i → I 417 j = 0) → ∃ J, evk zcod none (d + 1) zc_X12_looks 2 [(0, .ref 384), (1, .int hour), (2, .int up), (3, .int (nI i))] [] (S, I, L) = some (none, (S, J, L)) ∧ (∀ k, k < 9 → J 417 k = vv hour up (stS P r) 0 0 0 0 0 k) ∧ Fi lkA I J := by
    intro k
    induction k with
    | zero =>
      intro i hi I h hr hj
      let I1 := uI (uI (uI I 417 0 (zrem hour (nI 24))) 417 1 (hour / nI 24)) 417 7 up
      have f1 : Fi lkA I I1 := Fi.u (Fi.u (Fi.u Fi.rf rfl) rfl) rfl
      have h1 : MC S I1 P v := h.fi (f1.up fun a j q => by unfold lkA at q; unfold mj; omega)
      have r1 : RW I1 r := fun j q => (f1 420 j (by unfold lkA; omega)).trans (hr j q)
      refine ⟨uI I1 417 8 (stS P r), ?_, fun k hk => ?_, Fi.u f1 rfl⟩
      · rw [B_X12_looks_2, if_pos (nI_le (by omega) (by omega)), B_X12_looks_21]
        simp only [gM G, if_true, true_and, n24, if_false, zt9, zx]
        rw [show uI (uI (uI I 417 0 (zrem hour (nI 24))) 417 1 (hour / nI 24)) 417 7 up = I1 from rfl, m_loadsSo _ G hv h1 r1]
        simp only [bI_eq, if_true, m_bits _ (bs_128 _ hv.1), soB, stS, soN, pc_cn hv.1, gM G, true_and, zt9, zx, B_X12_looks_64]
      · match k, hk with
        | 0, _ => simp [I1, uI_at, vv]
        | 1, _ => simp [I1, uI_at, vv]
        | 2, _ => simp [I1, uI_at, vv]; exact hj 2 (by omega)
        | 3, _ => simp [I1, uI_at, vv]; exact hj 3 (by omega)
        | 4, _ => simp [I1, uI_at, vv]; exact hj 4 (by omega)
        | 5, _ => simp [I1, uI_at, vv]; exact hj 5 (by omega)
        | 6, _ => simp [I1, uI_at, vv]; exact hj 6 (by omega)
        | 7, _ => simp [I1, uI_at, vv]
        | 8, _ => simp [I1, uI_at, vv]
        | n + 9, q => omega
    | succ k ih =>
      intro i hi I h hr hj
      have f0 : Fi lkA I (uI I 417 i (nI 0)) := Fi.u Fi.rf rfl
      obtain ⟨J, e, z1, z2⟩ := ih (i + 1) (by omega) (uI I 417 i (nI 0)) (h.fi (f0.up fun a j q => by unfold lkA at q; unfold mj; omega)) (fun j q => (uI_off (by omega)).trans (hr j q)) (fun j q => by
        by_cases w : j = i
        · rw [w]; exact (uI_same _ _ _ _).trans nI_0
        · rw [uI_ix w]; exact hj j (by omega))
      refine ⟨J, ?_, z1, f0.tr z2⟩
      rw [B_X12_looks_2, if_neg (nI_ge (by omega) (by omega))]
      simp only [gM G, if_true, true_and]
      rw [if_pos (ixP (by omega) (by omega)), ixI (by omega), nI_add]
      exact e
  obtain ⟨J, e, z⟩ := key 9 0 (by omega) I h hr (fun j q => by omega)
  refine ⟨J, ?_, z⟩
  rw [← e, E_X12_looks, B_X12_looks_0]
def mkA (a j : Nat) : Prop := a = 417 ∨ a = 418 ∨ a = 384 ∧ j = 51
theorem mk_mj {I J : mI} (f : Fi mkA I J) : Fi mj I J := f.up fun a j q => by unfold mkA at q; unfold mj; omega
theorem RW.mk {I J : mI} {r : mW} (h : RW I r) (f : Fi mkA I J) : RW J r := fun j q => (f 420 j (by unfold mkA; omega)).trans (h j q)
theorem m_law (d : Nat) {S : mS} {I : mI} {L : mJ} {P : mP} {v : Nat} (h : MC S I P v) {k : Nat} (hk : k < 4) {J : mI} (f : Fi lkA I J) {hour up st sz w hi ac pr pl : Int32} (hJ : ∀ k, k < 9 → J 417 k = vv hour up st sz w hi ac pr k) (hp : pl = dfl k (J 417)) : ∃ K, evM zcod (d + 2) 206 [.ref 384, .int (nI k), .int pl] (S, J, L) = some (some (.int (lawf P k (vv hour up st sz w hi ac pr))), (S, K, L)) ∧ Fi mkA I K := by
  obtain ⟨K, e, fK⟩ := h.2.2.2.2.2.2.2.2.2.2.2 k hk J d L (f 384 18 (by unfold lkA; omega)) (fun a x y => f.row a fun j => by unfold lkA; omega)
  rw [n9_vv hJ] at e
  rw [hp]
  exact ⟨K, e, (f.up (B := mkA) fun a j q => Or.inl q).tr (fK.up (B := mkA) fun a j q => by unfold mkA; omega)⟩
