/-! tokens: bytes, letters, words -/
def bC (B : Nat → Int32) (tp i : Nat) : Nat := if i < tp then (B i).toBitVec.toNat % 256 else 0
theorem bC_lt (B : Nat → Int32) (tp i : Nat) : bC B tp i < 256 := by
  unfold bC
  split
  · exact Nat.mod_lt _ (by omega)
  · omega
theorem bC_out {B : Nat → Int32} {tp i : Nat} (h : tp ≤ i) : bC B tp i = 0 := if_neg (by omega)
abbrev isL (n : Nat) : Prop := 97 ≤ n ∧ n ≤ 122
abbrev isD (n : Nat) : Prop := 48 ≤ n ∧ n ≤ 57
abbrev isB (n : Nat) : Prop := n = 9 ∨ n = 10 ∨ n = 13 ∨ n = 32
abbrev isGn (n : Nat) : Prop := n = 59 ∨ n = 61 ∨ n = 43 ∨ n = 45 ∨ n = 42 ∨ n = 47 ∨ n = 60 ∨ n = 40 ∨ n = 41
/-- m letters from q on, in base b -/
def lv (b : Nat) (c : Nat → Nat) (q : Nat) : Nat → Nat
  | 0 => 0
  | m + 1 => lv b c q m * b + (c (q + m) - 96)
def dv (c : Nat → Nat) (q : Nat) : Nat → Nat
  | 0 => 0
  | m + 1 => dv c q m * 10 + (c (q + m) - 48)
theorem lv_cg {b : Nat} {c c' : Nat → Nat} {q q' : Nat} : ∀ {m : Nat}, (∀ j, j < m → c (q + j) = c' (q' + j)) → lv b c q m = lv b c' q' m
  | 0, _ => rfl
  | m + 1, h => by
    unfold lv
    rw [lv_cg (m := m) fun j hj => h j (by omega), h m (by omega)]
theorem lv_inj {b : Nat} (hb : 27 ≤ b) {c c' : Nat → Nat} {q q' : Nat} : ∀ {m m' : Nat}, (∀ j, j < m → isL (c (q + j))) → (∀ j, j < m' → isL (c' (q' + j))) → lv b c q m = lv b c' q' m' → m = m' ∧ ∀ j, j < m → c (q + j) = c' (q' + j)
  | 0, 0, _, _, _ => ⟨rfl, fun j hj => by omega⟩
  | 0, m' + 1, _, h2, e => by
    exfalso
    have := h2 m' (by omega)
    unfold lv at e
    omega
  | m + 1, 0, h1, _, e => by
    exfalso
    have := h1 m (by omega)
    unfold lv at e
    omega
  | m + 1, m' + 1, h1, h2, e => by
    have a1 := h1 m (by omega)
    have a2 := h2 m' (by omega)
    have e' : lv b c q m * b + (c (q + m) - 96) = lv b c' q' m' * b + (c' (q' + m') - 96) := e
    have d : c (q + m) - 96 = c' (q' + m') - 96 := by
      have := congrArg (· % b) e'
      simp only [Nat.mul_comm _ b, Nat.mul_add_mod] at this
      rw [Nat.mod_eq_of_lt (show c (q + m) - 96 < b by omega), Nat.mod_eq_of_lt (show c' (q' + m') - 96 < b by omega)] at this
      exact this
    have x : lv b c q m = lv b c' q' m' := by
      rw [d] at e'
      exact Nat.eq_of_mul_eq_mul_right (show 0 < b by omega) (Nat.add_right_cancel e')
    obtain ⟨i1, i2⟩ := lv_inj hb (m := m) (m' := m') (fun j hj => h1 j (by omega)) (fun j hj => h2 j (by omega)) x
    subst i1
    refine ⟨rfl, fun j hj => ?_⟩
    by_cases c : j = m
    · subst c
      omega
    · exact i2 j (by omega)
theorem lvb_lt {b : Nat} (hb : 27 ≤ b) {c : Nat → Nat} {q : Nat} : ∀ {m : Nat}, (∀ j, j < m → isL (c (q + j))) → lv b c q m < b ^ m
  | 0, _ => by rw [Nat.pow_zero]; exact Nat.zero_lt_one
  | m + 1, h => by
    have a := h m (by omega)
    have i := lvb_lt hb (m := m) fun j hj => h j (by omega)
    have l : lv b c q m * b + (c (q + m) - 96) < b ^ m * b := by
      have := Nat.mul_le_mul_right b (show lv b c q m + 1 ≤ b ^ m from i)
      rw [Nat.add_mul] at this
      omega
    exact l
theorem dv_lt {c : Nat → Nat} {q : Nat} : ∀ {m : Nat}, (∀ j, j < m → isD (c (q + j))) → dv c q m < 10 ^ m
  | 0, _ => by unfold dv; omega
  | m + 1, h => by
    have a := h m (by omega)
    have i := dv_lt (m := m) fun j hj => h j (by omega)
    have l : dv c q m * 10 + (c (q + m) - 48) < 10 ^ m * 10 := by omega
    exact l
/-- the words, by their letters -/
def wl (w : Nat) : List Nat := match w with
  | 0 => [12, 15, 1, 4] | 1 => [19, 9, 12, 11] | 2 => [8, 15, 15, 11] | 3 => [12, 9, 6, 20] | 4 => [23, 9, 14, 4] | 5 => [20, 9, 5, 19] | 6 => [16, 1, 25, 19]
  | 7 => [18, 9, 13] | 8 => [7, 21, 19, 20, 19] | 9 => [19, 5, 5, 4] | 10 => [9, 6] | 11 => [20, 8, 5, 14] | 12 => [5, 12, 19, 5]
  | 13 => [8, 15, 21, 18] | 14 => [4, 1, 25] | 15 => [19, 9, 26, 5] | 16 => [23, 5, 9, 7, 8, 20] | 17 => [8, 9, 7, 8] | 18 => [1, 3, 18, 15, 19, 19] | 19 => [16, 18, 9, 3, 5] | 20 => [21, 16] | _ => [19, 20, 15, 18, 5, 4]
def wc (w j : Nat) : Nat := (wl w).getD j 0 + 96
def wN (b w : Nat) : Nat := lv b (wc w) 0 (wl w).length
theorem wl_ok : ∀ w, w < 22 → (wl w).length ≤ 6 ∧ ∀ j, j < (wl w).length → isL (wc w j) := by decide +kernel
theorem wN_inj : ∀ w, w < 22 → ∀ w', w' < 22 → wN 27 w = wN 27 w' → w = w' := by decide +kernel
theorem wN_inj32 : ∀ w, w < 22 → ∀ w', w' < 22 → wN 32 w = wN 32 w' → w = w' := by decide +kernel
theorem wN_lt : ∀ w, w < 22 → wN 27 w < 2 ^ 60 ∧ wN 32 w < 2 ^ 60 := by decide +kernel
theorem word_eqv {c : Nat → Nat} {q m w : Nat} (hw : w < 22) (h : ∀ j, j < m → isL (c (q + j))) : lv 27 c q m = wN 27 w ↔ lv 32 c q m = wN 32 w := by
  have o := (wl_ok w hw).2
  have o' : ∀ j, j < (wl w).length → isL (wc w (0 + j)) := fun j hj => by rw [Nat.zero_add]; exact o j hj
  constructor
  · intro e
    obtain ⟨a, b⟩ := lv_inj (b := 27) (by omega) h o' e
    unfold wN
    rw [← a]
    exact lv_cg b
  · intro e
    obtain ⟨a, b⟩ := lv_inj (b := 32) (by omega) h o' e
    unfold wN
    rw [← a]
    exact lv_cg b
theorem lv_eqv {c : Nat → Nat} {q m q' m' : Nat} (h : ∀ j, j < m → isL (c (q + j))) (h' : ∀ j, j < m' → isL (c (q' + j))) : lv 27 c q m = lv 27 c q' m' ↔ lv 32 c q m = lv 32 c q' m' := by
  constructor
  · intro e
    obtain ⟨a, b⟩ := lv_inj (b := 27) (by omega) h h' e
    rw [← a]
    exact lv_cg b
  · intro e
    obtain ⟨a, b⟩ := lv_inj (b := 32) (by omega) h h' e
    rw [← a]
    exact lv_cg b
/-- one token: from e on; its kind, place, value; where it ends -/
def TKl (c : Nat → Nat) (tp q : Nat) (k : Int32) (n : Int64) (e1 : Nat) : Prop := ∃ m, 1 ≤ m ∧ q + m ≤ tp ∧ (∀ j, j < m → isL (c (q + j))) ∧ ¬ isL (c (q + m)) ∧ e1 = q + m ∧ (8 < m ∧ k = nI 1 ∨ m ≤ 8 ∧ n = lN (lv 32 c q m) ∧ ((∃ w, w < 22 ∧ lv 32 c q m = wN 32 w ∧ k = nI (128 + w)) ∨ (∀ w, w < 22 → ¬ lv 32 c q m = wN 32 w) ∧ k = nI 2))
def TKd (c : Nat → Nat) (tp q : Nat) (k : Int32) (n : Int64) (e1 : Nat) : Prop := ∃ m, 1 ≤ m ∧ q + m ≤ tp ∧ (∀ j, j < m → isD (c (q + j))) ∧ ¬ isD (c (q + m)) ∧ e1 = q + m ∧ (4 < m ∧ k = nI 1 ∨ m ≤ 4 ∧ k = nI 3 ∧ n = (nI (dv c q m)).toInt64)
def TK1 (c : Nat → Nat) (tp e0 : Nat) (k p : Int32) (n : Int64) (e1 : Nat) : Prop := ∃ q, e0 ≤ q ∧ q ≤ tp ∧ (∀ j, e0 ≤ j → j < q → isB (c j)) ∧ p = nI q ∧ ((q = tp ∧ k = nI 0 ∧ e1 = q) ∨ (q < tp ∧ ¬ isB (c q) ∧ (TKl c tp q k n e1 ∨ TKd c tp q k n e1 ∨ (¬ isL (c q) ∧ ¬ isD (c q) ∧ e1 = q + 1 ∧ k = if isGn (c q) then nI (c q) else nI 1))))
/-! class side -/
theorem Gd.tape {S : mS} (G : Gd S) : Gd (uR S 32 5 8) ∧ kR (uR S 32 5 8) 32 5 = 8 := by
  refine ⟨⟨G.1, G.2.1, fun q hq => ?_⟩, by show (if 32 = 32 ∧ 5 = 5 then 8 else kR S 32 5) = 8; exact if_pos ⟨rfl, rfl⟩⟩
  have no : ∀ q, q ∈ zRT → ¬ (q.1 = 32 ∧ q.2.1 = 5) := by decide +kernel
  show (if q.1 = 32 ∧ q.2.1 = 5 then 8 else kR S q.1 q.2.1) = q.2.2
  rw [if_neg (no q hq)]
  exact G.2.2 q hq
theorem s_byteAt (d : Nat) {S : mS} {I : mI} {L : mJ} (G : Gd S) (z : kR S 32 5 = 8) {tp i : Nat} (h6 : I 32 6 = nI tp) (htp : tp ≤ 2000) (hi : i ≤ 10000) : evM zcod (d + 1) 42 [.ref 32, .int (nI i)] (S, I, L) = some (some (.int (nI (bC (I 8) tp i))), (S, I, L)) := by
  rw [E_X10_byteAt]
  simp only [B_X10_byteAt_0, B_X10_byteAt_25, B_X10_byteAt_26, gRd G, gTop G, if_true, true_and, h6, z]
  rw [if_neg (n_pos (n := i) (by omega))]
  unfold bC
  by_cases c : i < tp
  · rw [if_neg (nI_ge c (by omega)), if_pos (ixP (by omega) (by omega)), ixI (by omega), if_pos c, pk_and _ 8 (m := nI 255) (by decide +kernel)]
  · rw [if_pos (nI_le (by omega) (by omega)), if_neg c]
theorem s_isB (d : Nat) {S : mS} {I : mI} {L : mJ} {n : Nat} (hn : n < 256) : evM zcod (d + 1) 43 [.int (nI n)] (S, I, L) = some (some (.int (if isB n then nI 1 else nI 0)), (S, I, L)) := by
  rw [E_X10_isBlank]
  simp only [B_X10_isBlank_0, B_X10_isBlank_24, B_X10_isBlank_28, B_X10_isBlank_29, b0, b1, if_true, nI_eq (show n < 2 ^ 31 by omega) (show 9 < 2 ^ 31 by omega), nI_eq (show n < 2 ^ 31 by omega) (show 10 < 2 ^ 31 by omega), nI_eq (show n < 2 ^ 31 by omega) (show 13 < 2 ^ 31 by omega), nI_eq (show n < 2 ^ 31 by omega) (show 32 < 2 ^ 31 by omega)]
  by_cases c1 : n = 9
  · rw [if_pos c1, if_pos (Or.inl c1)]
  · rw [if_neg c1]
    by_cases c2 : n = 10
    · rw [if_pos c2, if_pos (Or.inr (Or.inl c2))]
    · rw [if_neg c2]
      by_cases c3 : n = 13
      · rw [if_pos c3, if_pos (Or.inr (Or.inr (Or.inl c3)))]
      · rw [if_neg c3]
        by_cases c4 : n = 32
        · rw [if_neg (fun q => q c4), if_pos (Or.inr (Or.inr (Or.inr c4)))]
        · rw [if_pos c4, if_neg (by rintro (z | z | z | z); exact c1 z; exact c2 z; exact c3 z; exact c4 z)]
theorem s_isL (d : Nat) {S : mS} {I : mI} {L : mJ} {n : Nat} (hn : n < 256) : evM zcod (d + 1) 44 [.int (nI n)] (S, I, L) = some (some (.int (if isL n then nI 1 else nI 0)), (S, I, L)) := by
  rw [E_X10_isLetter]
  simp only [B_X10_isLetter_0, B_X10_isLetter_16, B_X10_isLetter_17, b0, b1, if_true]
  by_cases c : isL n
  · rw [if_neg (nI_nlt c.1 (by omega)), if_neg (nI_nlt c.2 (by omega)), if_pos c]
  · rw [if_neg c]
    by_cases c1 : n < 97
    · rw [if_pos (nI_lt c1 (by omega))]
    · rw [if_neg (nI_nlt (by omega) (by omega)), if_pos (nI_lt (by omega) (by omega))]
theorem s_isD (d : Nat) {S : mS} {I : mI} {L : mJ} {n : Nat} (hn : n < 256) : evM zcod (d + 1) 45 [.int (nI n)] (S, I, L) = some (some (.int (if isD n then nI 1 else nI 0)), (S, I, L)) := by
  rw [E_X10_isDigit]
  simp only [B_X10_isDigit_0, B_X10_isDigit_16, B_X10_isDigit_17, b0, b1, if_true]
  by_cases c : isD n
  · rw [if_neg (nI_nlt c.1 (by omega)), if_neg (nI_nlt c.2 (by omega)), if_pos c]
  · rw [if_neg c]
    by_cases c1 : n < 48
    · rw [if_pos (nI_lt c1 (by omega))]
    · rw [if_neg (nI_nlt (by omega) (by omega)), if_pos (nI_lt (by omega) (by omega))]
theorem s_tokAdd (d : Nat) {S : mS} {I : mI} {L : mJ} (G : Gd S) {u : Nat} (h : I 32 4 = nI u) (hu : u < 401) (k p : Int32) (n : Int64) : evM zcod (d + 1) 41 [.ref 32, .int k, .int p, .long n] (S, I, L) = some (none, (S, uI (uI (uI I 34 u k) 35 u p) 32 4 (nI (u + 1)), uL L 36 u n)) := by
  have x : zin (nI u) 401 = True := ixT hu (by omega)
  have xi : zix (nI u) = u := ixI (by omega)
  have nl : ¬ nI 401 ≤ nI u := nI_ge hu (by omega)
  have e1 : uI I 34 u k 32 4 = nI u := (uI_off (by omega)).trans h
  have e2 : uI (uI I 34 u k) 35 u p 32 4 = nI u := (uI_off (by omega)).trans e1
  rw [E_X10_add]
  simp only [B_X10_add_0, B_X10_add_76, gRd G, if_true, true_and, h, nl, if_false, x, xi, e1, e2, nI_add]
theorem let_v : ∀ c, c < 123 → 97 ≤ c → nI c - nI 97 + nI 1 = nI (c - 96) := by decide +kernel
theorem dig_v : ∀ c, c < 58 → 48 ≤ c → nI c - nI 48 = nI (c - 48) := by decide +kernel
theorem s_withLetter (d : Nat) {S : mS} {I : mI} {L : mJ} (x : Int64) {c : Nat} (hc : isL c) : evM zcod (d + 1) 46 [.long x, .int (nI c)] (S, I, L) = some (some (.long (x * lN 32 + lN (c - 96))), (S, I, L)) := by
  rw [E_X10_withLetter, B_X10_withLetter_0, let_v c (by omega) hc.1, nI_l (by omega)]
  rfl
def scF (a j : Nat) : Prop := a = 32 ∧ j = 7
theorem s_letLoop (d : Nat) {S : mS} {L : mJ} (G : Gd S) (z : kR S 32 5 = 8) {tp q : Nat} (htp : tp ≤ 2000) : ∀ (n m : Nat) (I : mI) (x : Int64), tp - (q + m) ≤ n → q + m ≤ tp → I 32 6 = nI tp → I 32 7 = nI (q + m) → (∀ j, j < m → isL (bC (I 8) tp (q + j))) → (m ≤ 8 → x = lN (lv 32 (bC (I 8) tp) q m)) → ∃ m' J x', m ≤ m' ∧ q + m' ≤ tp ∧ (∀ j, j < m' → isL (bC (I 8) tp (q + j))) ∧ ¬ isL (bC (I 8) tp (q + m')) ∧ (m' ≤ 8 → x' = lN (lv 32 (bC (I 8) tp) q m')) ∧ evk zcod none (d + 1) zc_X10_scanLetters 7 [(0, .ref 32), (1, .int (nI q)), (2, .long x)] [] (S, I, L) = evk zcod none (d + 1) zc_X10_scanLetters 58 [(0, .ref 32), (1, .int (nI q)), (2, .long x')] [] (S, J, L) ∧ Fi scF I J ∧ J 32 7 = nI (q + m') := by
  intro n
  induction n with
  | zero =>
    intro m I x hn hm h6 h7 hl hx
    refine ⟨m, I, x, Nat.le_refl _, hm, hl, ?_, hx, ?_, Fi.rf, h7⟩
    · rw [bC_out (by omega)]
      omega
    · rw [B_X10_scanLetters_7]
      simp only [gRd G, if_true, h6, h7]
      rw [if_pos (nI_le (by omega) (by omega))]
  | succ n ih =>
    intro m I x hn hm h6 h7 hl hx
    by_cases c0 : q + m < tp
    · have e42 := s_byteAt d (L := L) (I := I) G z h6 htp (i := q + m) (by omega)
      have e44 := s_isL d (S := S) (I := I) (L := L) (bC_lt (I 8) tp (q + m))
      by_cases c : isL (bC (I 8) tp (q + m))
      · have e46 := s_withLetter d (S := S) (I := I) (L := L) x c
        let J := uI I 32 7 (nI (q + m + 1))
        have f : Fi scF I J := Fi.u Fi.rf ⟨rfl, rfl⟩
        have r8 : J 8 = I 8 := f.row 8 fun j => by unfold scF; omega
        obtain ⟨m', J2, x', a1, a2, a3, a4, a5, a6, a7, a8⟩ := ih (m + 1) J (x * lN 32 + lN (bC (I 8) tp (q + m) - 96)) (by omega) (by omega) ((uI_ix (by omega)).trans h6) (uI_same _ _ _ _) (fun j hj => by
          rw [r8]
          by_cases w : j = m
          · rw [w]; exact c
          · exact hl j (by omega)) (fun hm8 => by
          rw [r8, hx (by omega), lN_mul, lN_add]
          rfl)
        rw [r8] at a3 a4 a5
        refine ⟨m', J2, x', by omega, a2, a3, a4, a5, ?_, f.tr a7, a8⟩
        refine Eq.trans ?_ a6
        rw [B_X10_scanLetters_7]
        simp only [gRd G, if_true, h6, h7]
        rw [if_neg (nI_ge c0 (by omega))]
        simp only [e42, bI_eq, if_true, e44, if_pos c, z10, if_false, h7, e46, bL_eq]
        rw [B_X10_scanLetters_45]
        simp only [gRd G, if_true, h7, nI_add]
        rfl
      · refine ⟨m, I, x, Nat.le_refl _, hm, hl, c, hx, ?_, Fi.rf, h7⟩
        rw [B_X10_scanLetters_7]
        simp only [gRd G, if_true, h6, h7]
        rw [if_neg (nI_ge c0 (by omega))]
        simp only [e42, bI_eq, if_true, e44, if_neg c]
    · refine ⟨m, I, x, Nat.le_refl _, hm, hl, ?_, hx, ?_, Fi.rf, h7⟩
      · rw [bC_out (by omega)]
        omega
      · rw [B_X10_scanLetters_7]
        simp only [gRd G, if_true, h6, h7]
        rw [if_pos (nI_le (by omega) (by omega))]
def WCL (L : mJ) : Prop := ∀ w, w < 22 → L 33 w = lN (wN 32 w)
theorem s_kindOf (d : Nat) {S : mS} {I : mI} {L : mJ} (G : Gd S) (hW : WCL L) {x : Nat} (hx : x < 2 ^ 60) : ∃ k, evM zcod (d + 1) 48 [.ref 32, .long (lN x)] (S, I, L) = some (some (.int k), (S, I, L)) ∧ ((∃ w, w < 22 ∧ x = wN 32 w ∧ k = nI (128 + w)) ∨ (∀ w, w < 22 → ¬ x = wN 32 w) ∧ k = nI 2) := by
  have key : ∀ n i, i + n = 22 → (∀ w, w < i → ¬ x = wN 32 w) → ∃ k, evk zcod none d zc_X10_kindOf 2 [(0, .ref 32), (1, .long (lN x)), (3, .int (nI i))] [] (S, I, L) = some (some (.int k), (S, I, L)) ∧ ((∃ w, w < 22 ∧ x = wN 32 w ∧ k = nI (128 + w)) ∨ (∀ w, w < 22 → ¬ x = wN 32 w) ∧ k = nI 2) := by
    intro n
    induction n with
    | zero =>
      intro i hi h
      refine ⟨nI 2, ?_, Or.inr ⟨fun w hw => h w (by omega), rfl⟩⟩
      rw [B_X10_kindOf_2]
      simp only [gRd G, if_true]
      rw [if_pos (nI_le (by omega) (by omega)), B_X10_kindOf_34]
    | succ n ih =>
      intro i hi h
      have xi : zin (nI i) 22 = True := ixT (by omega) (by omega)
      have xii : zix (nI i) = i := ixI (by omega)
      have hw := hW i (by omega)
      have wl := (wN_lt i (by omega)).2
      rw [B_X10_kindOf_2]
      simp only [gRd G, if_true, true_and, xi, xii, hw, lg_0]
      rw [if_neg (nI_ge (by omega) (by omega))]
      by_cases c : x = wN 32 i
      · refine ⟨nI (128 + i), ?_, Or.inl ⟨i, by omega, c, rfl⟩⟩
        rw [if_neg (fun q => q (by rw [c])), nI_add]
      · obtain ⟨k, e, r⟩ := ih (i + 1) (by omega) (fun w hw => by
          by_cases v : w = i
          · rw [v]; exact c
          · exact h w (by omega))
        refine ⟨k, ?_, r⟩
        rw [if_pos (fun q => c ((pk_lEQ (by omega) (by omega)).mp q.symm)), B_X10_kindOf_28, nI_add]
        exact e
  rw [E_X10_kindOf, B_X10_kindOf_0]
  exact key 22 0 rfl fun w hw => by omega
def sgF (u a j : Nat) : Prop := a = 32 ∧ (j = 4 ∨ j = 7) ∨ (a = 34 ∨ a = 35) ∧ j = u
theorem s_letters (d : Nat) {S : mS} {I : mI} {L : mJ} (G : Gd S) (z : kR S 32 5 = 8) (hW : WCL L) {tp q u : Nat} (htp : tp ≤ 2000) (h6 : I 32 6 = nI tp) (h7 : I 32 7 = nI q) (hq : q < tp) (h4 : I 32 4 = nI u) (hu : u < 401) (hc : isL (bC (I 8) tp q)) : ∃ k n e1 J, evM zcod (d + 2) 47 [.ref 32] (S, I, L) = some (none, (S, J, uL L 36 u n)) ∧ Fi (sgF u) I J ∧ J 32 7 = nI e1 ∧ J 32 4 = nI (u + 1) ∧ J 34 u = k ∧ J 35 u = nI q ∧ TKl (bC (I 8) tp) tp q k n e1 := by
  obtain ⟨m, J1, x, a1, a2, a3, a4, a5, a6, a7, a8⟩ := s_letLoop d (L := L) G z htp (tp - q) 0 I (lN 0) (by omega) (by omega) h6 h7 (fun j hj => by omega) (fun _ => rfl)
  have m1 : 1 ≤ m := by
    by_cases c : m = 0
    · subst c
      exact absurd hc a4
    · omega
  have j4 : J1 32 4 = nI u := (a7 _ _ (by unfold scF; omega)).trans h4
  have w0 : evM zcod (d + 2) 47 [.ref 32] (S, I, L) = evk zcod none (d + 1) zc_X10_scanLetters 58 [(0, .ref 32), (1, .int (nI q)), (2, .long x)] [] (S, J1, L) := by
    rw [E_X10_scanLetters, B_X10_scanLetters_0]
    simp only [gRd G, if_true, h7]
    exact a6
  have fin : ∀ k, evk zcod none (d + 1) zc_X10_scanLetters 79 [(1, .int (nI q)), (2, .long x)] [.int k, .ref 32] (S, J1, L) = some (none, (S, uI (uI (uI J1 34 u k) 35 u (nI q)) 32 4 (nI (u + 1)), uL L 36 u x)) := by
    intro k
    rw [B_X10_scanLetters_79]
    simp only [gRd G, if_true, s_tokAdd d (L := L) G j4 hu, bV_eq]
  have F : ∀ k, Fi (sgF u) I (uI (uI (uI J1 34 u k) 35 u (nI q)) 32 4 (nI (u + 1))) := fun k => (a7.up fun _ _ z => Or.inl ⟨z.1, Or.inr z.2⟩).tr (Fi.u (Fi.u (Fi.u Fi.rf (Or.inr ⟨Or.inl rfl, rfl⟩)) (Or.inr ⟨Or.inr rfl, rfl⟩)) (Or.inl ⟨rfl, Or.inl rfl⟩))
  have r7 : ∀ k, uI (uI (uI J1 34 u k) 35 u (nI q)) 32 4 (nI (u + 1)) 32 7 = nI (q + m) := fun k => (uI_ix (by omega)).trans ((uI_off (by omega)).trans ((uI_off (by omega)).trans a8))
  have r34 : ∀ k, uI (uI (uI J1 34 u k) 35 u (nI q)) 32 4 (nI (u + 1)) 34 u = k := fun k => (uI_off (by omega)).trans ((uI_off (by omega)).trans (uI_same _ _ _ _))
  have r35 : ∀ k, uI (uI (uI J1 34 u k) 35 u (nI q)) 32 4 (nI (u + 1)) 35 u = nI q := fun k => (uI_off (by omega)).trans (uI_same _ _ _ _)
  have ms : nI (q + m) - nI q = nI m := by rw [pk_sub (by omega), show q + m - q = m by omega]
  by_cases c : m ≤ 8
  · have hx := a5 c
    have lt : lv 32 (bC (I 8) tp) q m < 2 ^ 60 := Nat.lt_of_lt_of_le (lvb_lt (b := 32) (by omega) a3) (Nat.le_trans (Nat.pow_le_pow_right (by omega) c) (by decide))
    obtain ⟨k, e, r⟩ := s_kindOf d (I := J1) (L := L) G hW lt
    refine ⟨k, x, q + m, _, ?_, F k, r7 k, uI_same _ _ _ _, r34 k, r35 k, m, m1, a2, a3, a4, rfl, Or.inr ⟨c, hx, r⟩⟩
    rw [w0, B_X10_scanLetters_58]
    simp only [gRd G, if_true, a8, ms]
    rw [if_pos (nI_le c (by omega)), B_X10_scanLetters_74]
    rw [← hx] at e
    simp only [gRd G, if_true, e, bI_eq]
    exact fin k
  · refine ⟨nI 1, x, q + m, _, ?_, F (nI 1), r7 _, uI_same _ _ _ _, r34 _, r35 _, m, m1, a2, a3, a4, rfl, Or.inl ⟨by omega, rfl⟩⟩
    rw [w0, B_X10_scanLetters_58]
    simp only [gRd G, if_true, a8, ms]
    rw [if_neg (nI_ge (by omega) (by omega))]
    exact fin (nI 1)
