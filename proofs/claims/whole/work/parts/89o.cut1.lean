/-! tokens, reference side -/
/-- the text as it was copied -/
def TXT (I : mI) (c : Nat → Nat) (tp : Nat) : Prop := tp ≤ 2000 ∧ I 384 4 = nI tp ∧ (∀ j, j < tp → I 386 j &&& nI 255 = nI (c j)) ∧ (∀ j, tp ≤ j → c j = 0) ∧ ∀ j, c j < 256
theorem TXT.fi {I J : mI} {c : Nat → Nat} {tp : Nat} (h : TXT I c tp) {A : Nat → Nat → Prop} (f : Fi A I J) (q : ¬ A 384 4 ∧ ∀ j, ¬ A 386 j) : TXT J c tp := ⟨h.1, (f _ _ q.1).trans h.2.1, fun j hj => by rw [f _ _ (q.2 j)]; exact h.2.2.1 j hj, h.2.2.2⟩
theorem m_byteAt (d : Nat) {S : mS} {I : mI} {L : mJ} (G : Gd S) {c : Nat → Nat} {tp i : Nat} (h : TXT I c tp) (hi : i ≤ 10000) : evM zcod (d + 1) 159 [.ref 384, .int (nI i)] (S, I, L) = some (some (.int (nI (c i))), (S, I, L)) := by
  obtain ⟨h1, h2, h3, h4, h5⟩ := h
  rw [E_X12_byteAt]
  simp only [B_X12_byteAt_0, B_X12_byteAt_21, B_X12_byteAt_22, gM G, if_true, true_and, h2]
  by_cases q : i < tp
  · rw [if_neg (nI_ge q (by omega)), if_pos (ixP (by omega) (by omega)), ixI (by omega), h3 i q]
  · rw [if_pos (nI_le (by omega) (by omega)), h4 i (by omega)]
theorem m_isL (d : Nat) {S : mS} {I : mI} {L : mJ} {n : Nat} (hn : n < 256) : evM zcod (d + 1) 161 [.int (nI n)] (S, I, L) = some (some (.int (if isL n then nI 1 else nI 0)), (S, I, L)) := by
  rw [E_X12_isLetter]
  simp only [B_X12_isLetter_0, B_X12_isLetter_16, B_X12_isLetter_17, b0, b1, if_true]
  by_cases c : isL n
  · rw [if_neg (nI_nlt c.1 (by omega)), if_neg (nI_nlt c.2 (by omega)), if_pos c]
  · rw [if_neg c]
    by_cases c1 : n < 97
    · rw [if_pos (nI_lt c1 (by omega))]
    · rw [if_neg (nI_nlt (by omega) (by omega)), if_pos (nI_lt (by omega) (by omega))]
theorem m_isD (d : Nat) {S : mS} {I : mI} {L : mJ} {n : Nat} (hn : n < 256) : evM zcod (d + 1) 160 [.int (nI n)] (S, I, L) = some (some (.int (if isD n then nI 1 else nI 0)), (S, I, L)) := by
  rw [E_X12_isDigit]
  simp only [B_X12_isDigit_0, B_X12_isDigit_16, B_X12_isDigit_17, b0, b1, if_true]
  by_cases c : isD n
  · rw [if_neg (nI_nlt c.1 (by omega)), if_neg (nI_nlt c.2 (by omega)), if_pos c]
  · rw [if_neg c]
    by_cases c1 : n < 48
    · rw [if_pos (nI_lt c1 (by omega))]
    · rw [if_neg (nI_nlt (by omega) (by omega)), if_pos (nI_lt (by omega) (by omega))]
theorem m_token (d : Nat) {S : mS} {I : mI} {L : mJ} (G : Gd S) {u : Nat} (h : I 384 10 = nI u) (hu : u < 403) (k p v : Int32) (n : Int64) : evM zcod (d + 1) 164 [.ref 384, .int k, .int p, .int v, .long n] (S, I, L) = some (none, (S, uI (uI (uI (uI I 387 u k) 388 u p) 389 u v) 384 10 (nI (u + 1)), uL L 390 u n)) := by
  have x : zin (nI u) 403 = True := ixT hu (by omega)
  have xi : zix (nI u) = u := ixI (by omega)
  have e1 : uI I 387 u k 384 10 = nI u := (uI_off (by omega)).trans h
  have e2 : uI (uI I 387 u k) 388 u p 384 10 = nI u := (uI_off (by omega)).trans e1
  have e3 : uI (uI (uI I 387 u k) 388 u p) 389 u v 384 10 = nI u := (uI_off (by omega)).trans e2
  rw [E_X12_token]
  simp only [B_X12_token_0, B_X12_token_41, gM G, if_true, true_and, h, x, xi, e1, e2, e3, nI_add]
def ctF (u a j : Nat) : Prop := a = 384 ∧ j = 10 ∨ 387 ≤ a ∧ a ≤ 389 ∧ j = u
theorem tok_fi (I : mI) (u : Nat) (k p v x : Int32) : Fi (ctF u) I (uI (uI (uI (uI I 387 u k) 388 u p) 389 u v) 384 10 x) := Fi.u (Fi.u (Fi.u (Fi.u Fi.rf (Or.inr ⟨by omega, by omega, rfl⟩)) (Or.inr ⟨by omega, by omega, rfl⟩)) (Or.inr ⟨by omega, by omega, rfl⟩)) (Or.inl ⟨rfl, rfl⟩)
theorem tok_at (I : mI) (u : Nat) (k p v x : Int32) : uI (uI (uI (uI I 387 u k) 388 u p) 389 u v) 384 10 x 384 10 = x ∧ uI (uI (uI (uI I 387 u k) 388 u p) 389 u v) 384 10 x 387 u = k ∧ uI (uI (uI (uI I 387 u k) 388 u p) 389 u v) 384 10 x 388 u = p ∧ uI (uI (uI (uI I 387 u k) 388 u p) 389 u v) 384 10 x 389 u = v := by
  refine ⟨uI_same _ _ _ _, ?_, ?_, ?_⟩
  · rw [uI_off (by omega), uI_off (by omega), uI_off (by omega), uI_same]
  · rw [uI_off (by omega), uI_off (by omega), uI_same]
  · rw [uI_off (by omega), uI_same]
theorem m_appends (d : Nat) {S : mS} {I : mI} {L : mJ} (x : Int64) {c : Nat} (hc : isL c) : evM zcod (d + 1) 162 [.long x, .int (nI c)] (S, I, L) = some (some (.long (lN 27 * x + lN (c - 96))), (S, I, L)) := by
  rw [E_X12_appends]
  simp only [B_X12_appends_0, B_X12_appends_8, B_X12_appends_21, let_v c (by omega) hc.1, nI_l (show c - 96 < 2 ^ 31 by omega)]
  rw [if_pos (n_ne (by omega) (by omega) (by omega))]
  rfl
noncomputable abbrev c7 (S : mS) (D : Nat) (I : mI) (L : mJ) (i : Nat) : Option (Option Value × zM) := evk zcod none D zc_X12_cut 7 [(0, .ref 384), (1, .int (nI i))] [] (S, I, L)
theorem m_letLoop (d : Nat) {S : mS} {I : mI} {L : mJ} (G : Gd S) {c : Nat → Nat} {tp q : Nat} (h : TXT I c tp) {mm : Nat} (hm : q + mm ≤ tp) (hl : ∀ j, j < mm → isL (c (q + j))) (hn : ¬ isL (c (q + mm))) : ∀ (n m : Nat) (x : Int64), m + n = mm → (mm ≤ 8 → x = lN (lv 27 c q m)) → ∃ x', (mm ≤ 8 → x' = lN (lv 27 c q mm)) ∧ evk zcod none (d + 1) zc_X12_cut 85 [(0, .ref 384), (1, .int (nI q)), (3, .int (nI m)), (4, .long x)] [] (S, I, L) = evk zcod none (d + 1) zc_X12_cut 124 [(0, .ref 384), (1, .int (nI q)), (3, .int (nI mm)), (4, .long x')] [] (S, I, L) := by
  have htp := h.1
  intro n
  induction n with
  | zero =>
    intro m x hmn hx
    have e : m = mm := by omega
    subst e
    have e159 := m_byteAt d (L := L) G h (i := q + m) (by omega)
    have e161 := m_isL d (S := S) (I := I) (L := L) (h.2.2.2.2 (q + m))
    refine ⟨x, hx, ?_⟩
    rw [B_X12_cut_85]
    simp only [gM G, if_true, nI_add, e159, bI_eq, e161, if_neg hn]
  | succ n ih =>
    intro m x hmn hx
    have e159 := m_byteAt d (L := L) G h (i := q + m) (by omega)
    have e161 := m_isL d (S := S) (I := I) (L := L) (h.2.2.2.2 (q + m))
    have cl := hl m (by omega)
    by_cases c8 : m < 8
    · have e162 := m_appends d (S := S) (I := I) (L := L) x cl
      obtain ⟨x', h1, h2⟩ := ih (m + 1) (lN 27 * x + lN (c (q + m) - 96)) (by omega) (fun z => by
        rw [hx z, lN_mul, lN_add, Nat.mul_comm]
        rfl)
      refine ⟨x', h1, ?_⟩
      rw [B_X12_cut_85]
      simp only [gM G, if_true, nI_add, e159, bI_eq, e161, if_pos cl, z10, if_false]
      rw [if_neg (nI_ge c8 (by omega))]
      simp only [e162, bL_eq, if_true]
      rw [B_X12_cut_118, nI_add]
      exact h2
    · obtain ⟨x', h1, h2⟩ := ih (m + 1) x (by omega) (fun z => by omega)
      refine ⟨x', h1, ?_⟩
      rw [B_X12_cut_85]
      simp only [gM G, if_true, nI_add, e159, bI_eq, e161, if_pos cl, z10, if_false]
      rw [if_pos (nI_le (by omega) (by omega)), B_X12_cut_118, nI_add]
      exact h2
def WML (L : mJ) : Prop := ∀ w, w < 22 → L 391 w = lN (wN 27 w)
theorem m_keys (d : Nat) {S : mS} {I : mI} {L : mJ} (G : Gd S) (hW : WML L) {q m x : Nat} (hx : x < 2 ^ 60) {kk : Int32} (hk : (∃ w, w < 22 ∧ x = wN 27 w ∧ kk = nI (20 + w)) ∨ (∀ w, w < 22 → ¬ x = wN 27 w) ∧ kk = nI 1) : evk zcod none (d + 1) zc_X12_cut 146 [(0, .ref 384), (1, .int (nI q)), (3, .int (nI m)), (4, .long (lN x)), (6, .int (nI 1)), (7, .int (nI 0))] [] (S, I, L) = evk zcod none (d + 1) zc_X12_cut 179 [(0, .ref 384), (1, .int (nI q)), (3, .int (nI m)), (4, .long (lN x)), (6, .int kk)] [] (S, I, L) := by
  have key : ∀ n i (y : Int32), i + n = 22 → ((∃ w, w < i ∧ x = wN 27 w) → y = kk) → ((∀ w, w < i → ¬ x = wN 27 w) → y = nI 1) → evk zcod none (d + 1) zc_X12_cut 146 [(0, .ref 384), (1, .int (nI q)), (3, .int (nI m)), (4, .long (lN x)), (6, .int y), (7, .int (nI i))] [] (S, I, L) = evk zcod none (d + 1) zc_X12_cut 179 [(0, .ref 384), (1, .int (nI q)), (3, .int (nI m)), (4, .long (lN x)), (6, .int kk)] [] (S, I, L) := by
    intro n
    induction n with
    | zero =>
      intro i y hi h1 h2
      have i22 : i = 22 := by omega
      subst i22
      have e : y = kk := by
        rcases hk with ⟨w, a, b, c⟩ | ⟨a, b⟩
        · exact h1 ⟨w, a, b⟩
        · rw [b]
          exact h2 a
      rw [B_X12_cut_146, if_pos (nI_le (by omega) (by omega)), e]
    | succ n ih =>
      intro i y hi h1 h2
      have xi : zin (nI i) 22 = True := ixT (by omega) (by omega)
      have xii : zix (nI i) = i := ixI (by omega)
      have hw := hW i (by omega)
      have wl := (wN_lt i (by omega)).1
      rw [B_X12_cut_146, if_neg (nI_ge (by omega) (by omega))]
      simp only [gM G, if_true, true_and, xi, xii, hw, lg_0]
      by_cases c : x = wN 27 i
      · have ek : kk = nI (20 + i) := by
          rcases hk with ⟨w, a, b, c'⟩ | ⟨a, b⟩
          · rw [c', wN_inj w a i (by omega) (b.symm.trans c)]
          · exact absurd c (a i (by omega))
        rw [if_neg (fun q => q (by rw [c])), B_X12_cut_173, nI_add, nI_add]
        refine ih (i + 1) (nI (20 + i)) (by omega) (fun _ => ek.symm) (fun z => absurd c (z i (by omega)))
      · rw [if_pos (fun q => c ((pk_lEQ (by omega) (by omega)).mp q.symm)), B_X12_cut_173, nI_add]
        refine ih (i + 1) y (by omega) ?_ ?_
        · rintro ⟨w, a, b⟩
          by_cases v : w = i
          · rw [v] at b
            exact absurd b c
          · exact h1 ⟨w, by omega, b⟩
        · intro z
          exact h2 fun w hw => z w (by omega)
  exact key 22 0 (nI 1) rfl (fun ⟨w, a, _⟩ => by omega) (fun _ => rfl)
/-- what the reference has of a token -/
def MT1 (c : Nat → Nat) (J : mI) (L : mJ) (u : Nat) (k p : Int32) (n : Int64) : Prop := J 387 u = gk k ∧ J 388 u = p ∧ (k = nI 3 → J 389 u = n.toInt32) ∧ (k = nI 2 → ∃ q m, (∀ j, j < m → isL (c (q + j))) ∧ m ≤ 8 ∧ n = lN (lv 32 c q m) ∧ L 390 u = lN (lv 27 c q m))
theorem gk_words : (∀ w, w < 22 → gk (nI (128 + w)) = nI (20 + w)) ∧ gk (nI 0) = nI 0 ∧ gk (nI 1) = nI 3 ∧ gk (nI 2) = nI 1 ∧ gk (nI 3) = nI 2 := by decide +kernel
theorem m_tokL (d : Nat) {S : mS} {I : mI} {L : mJ} (G : Gd S) (hW : WML L) {c : Nat → Nat} {tp q u : Nat} (h : TXT I c tp) (h10 : I 384 10 = nI u) (hu : u ≤ 400) {k : Int32} {n : Int64} {e1 : Nat} (ht : TKl c tp q k n e1) : ∃ J y, evk zcod none (d + 1) zc_X12_cut 85 [(0, .ref 384), (1, .int (nI q)), (3, .int (nI 0)), (4, .long 0)] [] (S, I, L) = c7 S (d + 1) J (uL L 390 u y) e1 ∧ Fi (ctF u) I J ∧ J 384 10 = nI (u + 1) ∧ MT1 c J (uL L 390 u y) u k (nI q) n := by
  obtain ⟨m, m1, m2, hl, hn, rfl, r⟩ := ht
  have htp := h.1
  obtain ⟨x, hx, w⟩ := m_letLoop d (L := L) G h m2 hl hn m 0 (lN 0) (by omega) (fun _ => rfl)
  have fin : ∀ kk : Int32, evk zcod none (d + 1) zc_X12_cut 179 [(0, .ref 384), (1, .int (nI q)), (3, .int (nI m)), (4, .long x), (6, .int kk)] [] (S, I, L) = c7 S (d + 1) (uI (uI (uI (uI I 387 u kk) 388 u (nI q)) 389 u (nI 0)) 384 10 (nI (u + 1))) (uL L 390 u x) (q + m) := by
    intro kk
    rw [B_X12_cut_179]
    simp only [gM G, if_true, m_token d (L := L) G h10 (show u < 403 by omega), bV_eq, nI_add]
    rw [B_X12_cut_291]
  rcases r with ⟨m8, rfl⟩ | ⟨m8, nn, r⟩
  · refine ⟨_, x, ?_, tok_fi I u (nI 3) (nI q) (nI 0) (nI (u + 1)), (tok_at I u _ _ _ _).1, (tok_at I u _ _ _ _).2.1, (tok_at I u _ _ _ _).2.2.1, fun z => absurd z (by decide +kernel), fun z => absurd z (by decide +kernel)⟩
    refine w.trans ?_
    rw [B_X12_cut_124, if_neg (nI_ge m8 (by omega)), B_X12_cut_135, if_pos (nI_lt m8 (by omega))]
    exact fin (nI 3)
  · have hx' := hx m8
    have lt : lv 27 c q m < 2 ^ 60 := Nat.lt_of_lt_of_le (lvb_lt (b := 27) (by omega) hl) (Nat.le_trans (Nat.pow_le_pow_right (by omega) m8) (by decide))
    have hk : (∃ w, w < 22 ∧ lv 27 c q m = wN 27 w ∧ gk k = nI (20 + w)) ∨ (∀ w, w < 22 → ¬ lv 27 c q m = wN 27 w) ∧ gk k = nI 1 := by
      rcases r with ⟨w, a, b, e⟩ | ⟨a, e⟩
      · exact Or.inl ⟨w, a, (word_eqv a hl).mpr b, by rw [e]; exact gk_words.1 w a⟩
      · exact Or.inr ⟨fun w hw z => a w hw ((word_eqv hw hl).mp z), by rw [e]; exact gk_words.2.2.2.1⟩
    have n3 : ¬ k = nI 3 := by
      rcases r with ⟨w, a, _, e⟩ | ⟨_, e⟩
      · rw [e]
        exact n_ne (by omega) (by omega) (by omega)
      · rw [e]
        decide +kernel
    refine ⟨_, x, ?_, tok_fi I u (gk k) (nI q) (nI 0) (nI (u + 1)), (tok_at I u _ _ _ _).1, (tok_at I u _ _ _ _).2.1, (tok_at I u _ _ _ _).2.2.1, fun z => absurd z n3, fun _ => ⟨q, m, hl, m8, nn, by rw [uL_at, if_pos ⟨rfl, rfl⟩, hx']⟩⟩
    refine w.trans ?_
    rw [B_X12_cut_124, if_pos (nI_le m8 (by omega)), B_X12_cut_134, B_X12_cut_135, if_neg (nI_nlt m8 (by omega))]
    have kk := m_keys d (I := I) (L := L) G hW (q := q) (m := m) lt hk
    rw [← hx'] at kk
    rw [kk]
    exact fin (gk k)
