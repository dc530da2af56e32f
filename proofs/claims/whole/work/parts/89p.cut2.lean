/-! tokens, reference side: ints, signs, the cut -/
theorem m_digLoop (d : Nat) {S : mS} {I : mI} {L : mJ} (G : Gd S) {c : Nat → Nat} {tp q : Nat} (h : TXT I c tp) {mm : Nat} (hm : q + mm ≤ tp) (hl : ∀ j, j < mm → isD (c (q + j))) (hn : ¬ isD (c (q + mm))) : ∀ (n m : Nat) (x : Int32), m + n = mm → (mm ≤ 4 → x = nI (dv c q m)) → ∃ x', (mm ≤ 4 → x' = nI (dv c q mm)) ∧ evk zcod none (d + 1) zc_X12_cut 208 [(0, .ref 384), (1, .int (nI q)), (3, .int (nI m)), (4, .int x)] [] (S, I, L) = evk zcod none (d + 1) zc_X12_cut 250 [(0, .ref 384), (1, .int (nI q)), (3, .int (nI mm)), (4, .int x')] [] (S, I, L) := by
  have htp := h.1
  intro n
  induction n with
  | zero =>
    intro m x hmn hx
    have e : m = mm := by omega
    subst e
    have e159 := m_byteAt d (L := L) G h (i := q + m) (by omega)
    have e160 := m_isD d (S := S) (I := I) (L := L) (h.2.2.2.2 (q + m))
    refine ⟨x, hx, ?_⟩
    rw [B_X12_cut_208]
    simp only [gM G, if_true, nI_add, e159, bI_eq, e160, if_neg hn]
  | succ n ih =>
    intro m x hmn hx
    have e159 := m_byteAt d (L := L) G h (i := q + m) (by omega)
    have e160 := m_isD d (S := S) (I := I) (L := L) (h.2.2.2.2 (q + m))
    have cl := hl m (by omega)
    by_cases c4 : m < 4
    · obtain ⟨x', h1, h2⟩ := ih (m + 1) (nI 10 * x + nI (c (q + m)) - nI 48) (by omega) (fun z => by
        rw [hx z, pk_mul, nI_add, pk_sub (by have := cl.1; omega)]
        congr 1
        have : dv c q (m + 1) = dv c q m * 10 + (c (q + m) - 48) := rfl
        have := cl.1
        omega)
      refine ⟨x', h1, ?_⟩
      rw [B_X12_cut_208]
      simp only [gM G, if_true, nI_add, e159, bI_eq, e160, if_pos cl, z10, if_false]
      rw [if_neg (nI_ge c4 (by omega)), B_X12_cut_244, nI_add]
      exact h2
    · obtain ⟨x', h1, h2⟩ := ih (m + 1) x (by omega) (fun z => by omega)
      refine ⟨x', h1, ?_⟩
      rw [B_X12_cut_208]
      simp only [gM G, if_true, nI_add, e159, bI_eq, e160, if_pos cl, z10, if_false]
      rw [if_pos (nI_le (by omega) (by omega)), B_X12_cut_244, nI_add]
      exact h2
theorem m_tokD (d : Nat) {S : mS} {I : mI} {L : mJ} (G : Gd S) {c : Nat → Nat} {tp q u : Nat} (h : TXT I c tp) (h10 : I 384 10 = nI u) (hu : u ≤ 400) {k : Int32} {n : Int64} {e1 : Nat} (ht : TKd c tp q k n e1) : ∃ J y, evk zcod none (d + 1) zc_X12_cut 208 [(0, .ref 384), (1, .int (nI q)), (3, .int (nI 0)), (4, .int (nI 0))] [] (S, I, L) = c7 S (d + 1) J (uL L 390 u y) e1 ∧ Fi (ctF u) I J ∧ J 384 10 = nI (u + 1) ∧ MT1 c J (uL L 390 u y) u k (nI q) n := by
  obtain ⟨m, m1, m2, hl, hn, rfl, r⟩ := ht
  have htp := h.1
  obtain ⟨x, hx, w⟩ := m_digLoop d (L := L) G h m2 hl hn m 0 (nI 0) (by omega) (fun _ => rfl)
  have fin : ∀ kk : Int32, evk zcod none (d + 1) zc_X12_cut 261 [(0, .ref 384), (1, .int (nI q)), (3, .int (nI m)), (4, .int x)] [.int kk, .ref 384] (S, I, L) = c7 S (d + 1) (uI (uI (uI (uI I 387 u kk) 388 u (nI q)) 389 u x) 384 10 (nI (u + 1))) (uL L 390 u 0) (q + m) := by
    intro kk
    rw [B_X12_cut_261]
    simp only [gM G, if_true, m_token d (L := L) G h10 (show u < 403 by omega), bV_eq, nI_add]
    rw [B_X12_cut_291]
  rcases r with ⟨m4, rfl⟩ | ⟨m4, rfl, nn⟩
  · refine ⟨_, 0, ?_, tok_fi I u (nI 3) (nI q) x (nI (u + 1)), (tok_at I u _ _ _ _).1, (tok_at I u _ _ _ _).2.1, (tok_at I u _ _ _ _).2.2.1, fun z => absurd z (by decide +kernel), fun z => absurd z (by decide +kernel)⟩
    refine w.trans ?_
    rw [B_X12_cut_250, if_neg (nI_ge m4 (by omega))]
    exact fin (nI 3)
  · refine ⟨_, 0, ?_, tok_fi I u (nI 2) (nI q) x (nI (u + 1)), (tok_at I u _ _ _ _).1, (tok_at I u _ _ _ _).2.1, (tok_at I u _ _ _ _).2.2.1, fun _ => ?_, fun z => absurd z (by decide +kernel)⟩
    · refine w.trans ?_
      rw [B_X12_cut_250, if_pos (nI_le m4 (by omega)), B_X12_cut_260]
      exact fin (nI 2)
    · rw [(tok_at I u _ _ _ _).2.2.2, hx m4, nn, Int32.toInt32_toInt64]
def sgK (c : Nat) : Int32 := if c = 60 then nI 13 else if c = 47 then nI 15 else if c = 42 then nI 10 else if c = 45 then nI 9 else if c = 43 then nI 8 else if c = 59 then nI 4 else if c = 61 then nI 5 else if c = 40 then nI 6 else if c = 41 then nI 7 else nI 3
theorem sgK_gk : ∀ c, c < 256 → sgK c = gk (if isGn c then nI c else nI 1) := by decide +kernel
theorem m_sign (d : Nat) {S : mS} {I : mI} {L : mJ} (G : Gd S) {u : Nat} (h : I 384 10 = nI u) (hu : u < 403) (p y : Int32) {c : Nat} (hc : c < 256) : evM zcod (d + 2) 166 [.ref 384, .int p, .int (nI c), .int y] (S, I, L) = some (some (.int (nI 1)), (S, uI (uI (uI (uI I 387 u (sgK c)) 388 u p) 389 u (nI 0)) 384 10 (nI (u + 1)), uL L 390 u 0)) := by
  have q : ∀ n, n < 256 → (nI c = nI n ↔ c = n) := fun n hn => nI_eq (by omega) (by omega)
  have e95 : ∀ k, evk zcod none (d + 1) zc_X12_sign 95 [(0, .ref 384), (1, .int p), (4, .int k)] [] (S, I, L) = some (some (.int (nI 1)), (S, uI (uI (uI (uI I 387 u k) 388 u p) 389 u (nI 0)) 384 10 (nI (u + 1)), uL L 390 u 0)) := by
    intro k
    rw [B_X12_sign_95]
    simp only [gM G, if_true, m_token d (L := L) G h hu, bV_eq]
  have e85 : ∀ k, evk zcod none (d + 1) zc_X12_sign 85 [(0, .ref 384), (1, .int p), (2, .int (nI c)), (4, .int k)] [] (S, I, L) = evk zcod none (d + 1) zc_X12_sign 95 [(0, .ref 384), (1, .int p), (4, .int (if c = 60 then nI 13 else k))] [] (S, I, L) := by
    intro k
    rw [B_X12_sign_85]
    by_cases w : c = 60
    · rw [if_neg (fun z => z ((q 60 (by omega)).mpr w)), if_pos w]
    · rw [if_pos (fun z => w ((q 60 (by omega)).mp z)), if_neg w]
  have e75 : ∀ k, evk zcod none (d + 1) zc_X12_sign 75 [(0, .ref 384), (1, .int p), (2, .int (nI c)), (4, .int k)] [] (S, I, L) = evk zcod none (d + 1) zc_X12_sign 85 [(0, .ref 384), (1, .int p), (2, .int (nI c)), (4, .int (if c = 47 then nI 15 else k))] [] (S, I, L) := by
    intro k
    rw [B_X12_sign_75]
    by_cases w : c = 47
    · rw [if_neg (fun z => z ((q 47 (by omega)).mpr w)), if_pos w]
    · rw [if_pos (fun z => w ((q 47 (by omega)).mp z)), if_neg w]
  have e65 : ∀ k, evk zcod none (d + 1) zc_X12_sign 65 [(0, .ref 384), (1, .int p), (2, .int (nI c)), (4, .int k)] [] (S, I, L) = evk zcod none (d + 1) zc_X12_sign 75 [(0, .ref 384), (1, .int p), (2, .int (nI c)), (4, .int (if c = 42 then nI 10 else k))] [] (S, I, L) := by
    intro k
    rw [B_X12_sign_65]
    by_cases w : c = 42
    · rw [if_neg (fun z => z ((q 42 (by omega)).mpr w)), if_pos w]
    · rw [if_pos (fun z => w ((q 42 (by omega)).mp z)), if_neg w]
  have e55 : ∀ k, evk zcod none (d + 1) zc_X12_sign 55 [(0, .ref 384), (1, .int p), (2, .int (nI c)), (4, .int k)] [] (S, I, L) = evk zcod none (d + 1) zc_X12_sign 65 [(0, .ref 384), (1, .int p), (2, .int (nI c)), (4, .int (if c = 45 then nI 9 else k))] [] (S, I, L) := by
    intro k
    rw [B_X12_sign_55]
    by_cases w : c = 45
    · rw [if_neg (fun z => z ((q 45 (by omega)).mpr w)), if_pos w]
    · rw [if_pos (fun z => w ((q 45 (by omega)).mp z)), if_neg w]
  have e43 : ∀ k, evk zcod none (d + 1) zc_X12_sign 43 [(0, .ref 384), (1, .int p), (2, .int (nI c))] [.int k] (S, I, L) = evk zcod none (d + 1) zc_X12_sign 55 [(0, .ref 384), (1, .int p), (2, .int (nI c)), (4, .int (if c = 43 then nI 8 else k))] [] (S, I, L) := by
    intro k
    rw [B_X12_sign_43]
    by_cases w : c = 43
    · rw [if_neg (fun z => z ((q 43 (by omega)).mpr w)), if_pos w]
    · rw [if_pos (fun z => w ((q 43 (by omega)).mp z)), if_neg w]
  have e0 : evk zcod none (d + 1) zc_X12_sign 0 [(0, .ref 384), (1, .int p), (2, .int (nI c)), (3, .int y)] [] (S, I, L) = evk zcod none (d + 1) zc_X12_sign 43 [(0, .ref 384), (1, .int p), (2, .int (nI c))] [.int (if c = 59 then nI 4 else if c = 61 then nI 5 else if c = 40 then nI 6 else if c = 41 then nI 7 else nI 3)] (S, I, L) := by
    rw [B_X12_sign_0]
    by_cases w1 : c = 59
    · rw [if_neg (fun z => z ((q 59 (by omega)).mpr w1)), if_pos w1]
    · rw [if_pos (fun z => w1 ((q 59 (by omega)).mp z)), if_neg w1, B_X12_sign_10]
      by_cases w2 : c = 61
      · rw [if_neg (fun z => z ((q 61 (by omega)).mpr w2)), if_pos w2]
      · rw [if_pos (fun z => w2 ((q 61 (by omega)).mp z)), if_neg w2, B_X12_sign_20]
        by_cases w3 : c = 40
        · rw [if_neg (fun z => z ((q 40 (by omega)).mpr w3)), if_pos w3]
        · rw [if_pos (fun z => w3 ((q 40 (by omega)).mp z)), if_neg w3, B_X12_sign_31]
          by_cases w4 : c = 41
          · rw [if_neg (fun z => z ((q 41 (by omega)).mpr w4)), if_pos w4]
          · rw [if_pos (fun z => w4 ((q 41 (by omega)).mp z)), if_neg w4, B_X12_sign_42]
  rw [E_X12_sign, e0, e43, e55, e65, e75, e85, e95]
  rfl
/-! the cut -/
theorem m_blanks (d : Nat) {S : mS} {I : mI} {L : mJ} (G : Gd S) {c : Nat → Nat} {tp q u : Nat} (h : TXT I c tp) (h10 : I 384 10 = nI u) (hu : u ≤ 400) (hq : q ≤ tp) : ∀ n i, i + n = q → (∀ j, i ≤ j → j < q → isB (c j)) → c7 S (d + 1) I L i = c7 S (d + 1) I L q := by
  have htp := h.1
  intro n
  induction n with
  | zero =>
    intro i hi _
    have e : i = q := by omega
    rw [e]
  | succ n ih =>
    intro i hi hb
    have e159 := m_byteAt d (L := L) G h (i := i) (by omega)
    have b := hb i (Nat.le_refl _) (by omega)
    rw [← ih (i + 1) (by omega) (fun j h1 h2 => hb j (by omega) h2)]
    have e67 : evk zcod none (d + 1) zc_X12_cut 67 [(0, .ref 384), (1, .int (nI i))] [] (S, I, L) = c7 S (d + 1) I L (i + 1) := by
      rw [B_X12_cut_67, nI_add, B_X12_cut_291]
    have l256 := h.2.2.2.2 i
    show evk zcod none (d + 1) zc_X12_cut 7 [(0, .ref 384), (1, .int (nI i))] [] (S, I, L) = _
    rw [B_X12_cut_7]
    simp only [gM G, if_true, h10]
    rw [if_neg (nI_nlt hu (by omega))]
    simp only [gM G, e159, bI_eq, if_true, h.2.1]
    rw [if_pos (nI_lt (by omega) (by omega)), B_X12_cut_43]
    rcases b with b | b | b | b
    · rw [if_pos (by rw [b]), e67]
    · rw [b, if_neg (by decide +kernel), if_pos rfl, e67]
    · rw [b, if_neg (by decide +kernel), if_neg (by decide +kernel), if_pos rfl, e67]
    · rw [b, if_neg (by decide +kernel), if_neg (by decide +kernel), if_neg (by decide +kernel), if_neg (fun q => q rfl), e67]
theorem m_tok1 (d : Nat) {S : mS} {I : mI} {L : mJ} (G : Gd S) (hW : WML L) {c : Nat → Nat} {tp e0 u : Nat} (h : TXT I c tp) (h10 : I 384 10 = nI u) (hu : u ≤ 400) {k p : Int32} {n : Int64} {e1 : Nat} (ht : TK1 c tp e0 k p n e1) : ∃ J y, Fi (ctF u) I J ∧ J 384 10 = nI (u + 1) ∧ MT1 c J (uL L 390 u y) u k p n ∧ (k = nI 0 → c7 S (d + 3) I L e0 = some (none, (S, J, uL L 390 u y))) ∧ (¬ k = nI 0 → c7 S (d + 3) I L e0 = c7 S (d + 3) J (uL L 390 u y) e1) := by
  have htp := h.1
  obtain ⟨q, h1, h2, h3, rfl, hs⟩ := ht
  have e159 := m_byteAt (d + 2) (L := L) G h (i := q) (by omega)
  obtain ⟨n0, hn0⟩ : ∃ n, e0 + n = q := ⟨q - e0, by omega⟩
  have w0 := m_blanks (d + 2) (L := L) G h h10 hu h2 n0 e0 hn0 h3
  have l256 := h.2.2.2.2 q
  rcases hs with ⟨a, rfl, rfl⟩ | ⟨a, nb, hs⟩
  · refine ⟨_, 0, tok_fi I u (nI 0) (nI tp) (nI 0) (nI (u + 1)), (tok_at I u _ _ _ _).1, ⟨(tok_at I u _ _ _ _).2.1, by rw [(tok_at I u _ _ _ _).2.2.1, a], fun z => absurd z (by decide +kernel), fun z => absurd z (by decide +kernel)⟩, fun _ => ?_, fun z => absurd rfl z⟩
    rw [w0]
    show evk zcod none (d + 3) zc_X12_cut 7 [(0, .ref 384), (1, .int (nI e1))] [] (S, I, L) = _
    rw [B_X12_cut_7]
    simp only [gM G, if_true, h10]
    rw [if_neg (nI_nlt hu (by omega))]
    simp only [gM G, e159, bI_eq, if_true, h.2.1]
    rw [if_neg (nI_nlt (by omega) (by omega))]
    simp only [m_token (d + 2) (L := L) G h10 (show u < 403 by omega), bV_eq, if_true]
  · have w73 : c7 S (d + 3) I L q = evk zcod none (d + 3) zc_X12_cut 73 [(0, .ref 384), (1, .int (nI q)), (2, .int (nI (c q)))] [] (S, I, L) := by
      show evk zcod none (d + 3) zc_X12_cut 7 [(0, .ref 384), (1, .int (nI q))] [] (S, I, L) = _
      rw [B_X12_cut_7]
      simp only [gM G, if_true, h10]
      rw [if_neg (nI_nlt hu (by omega))]
      simp only [gM G, e159, bI_eq, if_true, h.2.1]
      rw [if_pos (nI_lt a (by omega)), B_X12_cut_43]
      rw [if_neg (fun z => nb (Or.inl ((nI_eq (by omega) (by omega)).mp z))), if_neg (fun z => nb (Or.inr (Or.inl ((nI_eq (by omega) (by omega)).mp z)))), if_neg (fun z => nb (Or.inr (Or.inr (Or.inl ((nI_eq (by omega) (by omega)).mp z))))), if_pos (fun z => nb (Or.inr (Or.inr (Or.inr ((nI_eq (by omega) (by omega)).mp z)))))]
    have e161 := m_isL (d + 2) (S := S) (I := I) (L := L) l256
    have e160 := m_isD (d + 2) (S := S) (I := I) (L := L) l256
    rcases hs with hs | hs | ⟨nl, nd, rfl, rfl⟩
    · have cl : isL (c q) := by
        obtain ⟨m, m1, _, x, _⟩ := hs
        exact x 0 (by omega)
      have k0 : ¬ k = nI 0 := by
        obtain ⟨m, _, _, _, _, _, ⟨_, r⟩ | ⟨_, _, ⟨w, hw, _, r⟩ | ⟨_, r⟩⟩⟩ := hs
        · rw [r]; decide +kernel
        · rw [r]; exact n_ne (by omega) (by omega) (by omega)
        · rw [r]; decide +kernel
      obtain ⟨J, y, e, f, j10, mt⟩ := m_tokL (d + 2) (L := L) G hW h h10 hu hs
      refine ⟨J, y, f, j10, mt, fun z => absurd z k0, fun _ => ?_⟩
      rw [w0, w73, B_X12_cut_73]
      simp only [e161, bI_eq, if_true, if_pos cl, z10, if_false]
      exact e
    · have cd : isD (c q) := by
        obtain ⟨m, m1, _, x, _⟩ := hs
        exact x 0 (by omega)
      have k0 : ¬ k = nI 0 := by
        obtain ⟨m, _, _, _, _, _, ⟨_, r⟩ | ⟨_, r, _⟩⟩ := hs
        · rw [r]; decide +kernel
        · rw [r]; decide +kernel
      obtain ⟨J, y, e, f, j10, mt⟩ := m_tokD (d + 2) (L := L) G h h10 hu hs
      refine ⟨J, y, f, j10, mt, fun z => absurd z k0, fun _ => ?_⟩
      rw [w0, w73, B_X12_cut_73]
      have ncl : ¬ isL (c q) := by omega
      simp only [e161, bI_eq, if_true, if_neg ncl]
      rw [B_X12_cut_196]
      simp only [e160, bI_eq, if_true, if_pos cd, z10, if_false]
      exact e
    · have e159' := m_byteAt (d + 2) (L := L) G h (i := q + 1) (by omega)
      have sk := sgK_gk (c q) l256
      have hk : (if isGn (c q) then nI (c q) else nI 1) = nI 1 ∨ ∃ s, s < 62 ∧ 40 ≤ s ∧ (if isGn (c q) then nI (c q) else nI 1) = nI s := by
        by_cases g : isGn (c q)
        · rw [if_pos g]
          exact Or.inr ⟨c q, by omega, by omega, rfl⟩
        · rw [if_neg g]
          exact Or.inl rfl
      have ne : ∀ x, x = 0 ∨ x = 2 ∨ x = 3 → ¬ (if isGn (c q) then nI (c q) else nI 1) = nI x := by
        intro x hx
        rcases hk with z | ⟨s, s1, s2, z⟩
        · rw [z]
          exact n_ne (by omega) (by omega) (by omega)
        · rw [z]
          exact n_ne (by omega) (by omega) (by omega)
      refine ⟨_, 0, tok_fi I u (sgK (c q)) (nI q) (nI 0) (nI (u + 1)), (tok_at I u _ _ _ _).1, ⟨by rw [(tok_at I u _ _ _ _).2.1, sk], (tok_at I u _ _ _ _).2.2.1, fun z => absurd z (ne 3 (by omega)), fun z => absurd z (ne 2 (by omega))⟩, fun z => absurd z (ne 0 (by omega)), fun _ => ?_⟩
      rw [w0, w73, B_X12_cut_73]
      simp only [e161, bI_eq, if_true, if_neg nl]
      rw [B_X12_cut_196]
      simp only [e160, bI_eq, if_true, if_neg nd]
      rw [B_X12_cut_275]
      simp only [gM G, if_true, nI_add, e159', bI_eq, m_sign (d + 1) (L := L) G h10 (show u < 403 by omega) (nI q) (nI (c (q + 1))) l256]
      rw [B_X12_cut_291]
/-- all tokens, up to the first end -/
def MTK (c : Nat → Nat) (I : mI) (L : mJ) (K P : Nat → Int32) (N : Nat → Int64) : Prop := ∀ k, k ≤ 400 → NE K k → MT1 c I L k (K k) (P k) (N k)
def cuF (a j : Nat) : Prop := a = 384 ∧ j = 10 ∨ 387 ≤ a ∧ a ≤ 389
theorem MT1.cg {c : Nat → Nat} {I J : mI} {L L' : mJ} {u : Nat} {k p : Int32} {n : Int64} (h : MT1 c I L u k p n) (e : ∀ a, 387 ≤ a → a ≤ 389 → J a u = I a u) (e2 : L' 390 u = L 390 u) : MT1 c J L' u k p n := by
  obtain ⟨h1, h2, h3, h4⟩ := h
  refine ⟨(e _ (by omega) (by omega)).trans h1, (e _ (by omega) (by omega)).trans h2, fun z => (e _ (by omega) (by omega)).trans (h3 z), fun z => ?_⟩
  rw [e2]
  exact h4 z
theorem m_cut (d : Nat) {S : mS} {I : mI} {L : mJ} (G : Gd S) (hW : WML L) {c : Nat → Nat} {tp : Nat} (h : TXT I c tp) {K P : Nat → Int32} {N : Nat → Int64} {e : Nat → Nat} (ht : TKS c tp K P N e) : ∃ J L', evM zcod (d + 4) 165 [.ref 384] (S, I, L) = some (none, (S, J, L')) ∧ Fi cuF I J ∧ (∀ a j, ¬ a = 390 → L' a j = L a j) ∧ MTK c J L' K P N := by
  have key : ∀ n u (I' : mI) (L' : mJ), u + n = 401 → Fi cuF I I' → (∀ a j, ¬ a = 390 → L' a j = L a j) → I' 384 10 = nI u → (∀ k, k < u → MT1 c I' L' k (K k) (P k) (N k)) → (NE K u) → ∃ J L2, c7 S (d + 3) I' L' (e u) = some (none, (S, J, L2)) ∧ Fi cuF I J ∧ (∀ a j, ¬ a = 390 → L2 a j = L a j) ∧ MTK c J L2 K P N := by
    intro n
    induction n with
    | zero =>
      intro u I' L' hi f lo h10 hk hn
      refine ⟨I', L', ?_, f, lo, fun k h1 _ => hk k (by omega)⟩
      show evk zcod none (d + 3) zc_X12_cut 7 [(0, .ref 384), (1, .int (nI (e u)))] [] (S, I', L') = _
      rw [B_X12_cut_7]
      simp only [gM G, if_true, h10]
      rw [if_pos (nI_lt (by omega) (by omega)), B_X12_cut_294]
    | succ n ih =>
      intro u I' L' hi f lo h10 hk hn
      have hW' : WML L' := fun w hw => (lo 391 w (by omega)).trans (hW w hw)
      obtain ⟨J, y, fj, j10, mt, r1, r2⟩ := m_tok1 d (L := L') G hW' (h.fi f ⟨by unfold cuF; omega, fun j => by unfold cuF; omega⟩) h10 (by omega) (ht.2 u (by omega))
      have F : Fi cuF I J := f.tr (fj.up fun a j z => by unfold ctF at z; unfold cuF; omega)
      have lo' : ∀ a j, ¬ a = 390 → uL L' 390 u y a j = L a j := fun a j ha => (uL_off ha).trans (lo a j ha)
      have hk' : ∀ k, k < u + 1 → MT1 c J (uL L' 390 u y) k (K k) (P k) (N k) := by
        intro k hk1
        by_cases w : k = u
        · rw [w]
          exact mt
        · exact (hk k (by omega)).cg (fun a x y => fj a k (by unfold ctF; omega)) (by rw [uL_at, if_neg (fun z => w z.2)])
      by_cases k0 : K u = nI 0
      · refine ⟨J, _, r1 k0, F, lo', fun k h1 h2 => hk' k ?_⟩
        by_cases w : k < u + 1
        · exact w
        · exact absurd k0 (h2 u (by omega))
      · obtain ⟨J2, L2, e2, r⟩ := ih (u + 1) J (uL L' 390 u y) (by omega) F lo' j10 hk' (hn.up k0)
        exact ⟨J2, L2, (r2 k0).trans e2, r⟩
  have f0 : Fi cuF I (uI I 384 10 (nI 0)) := Fi.u Fi.rf (Or.inl ⟨rfl, rfl⟩)
  obtain ⟨J, L', w, r⟩ := key 401 0 (uI I 384 10 (nI 0)) L rfl f0 (fun _ _ _ => rfl) (uI_same _ _ _ _) (fun k hk => by omega) (fun j hj => by omega)
  refine ⟨J, L', ?_, r⟩
  rw [E_X12_cut, B_X12_cut_0]
  simp only [gM G, if_true]
  rw [ht.1] at w
  exact w
theorem MTK.nr {c : Nat → Nat} {I : mI} {L : mJ} {K P : Nat → Int32} {N : Nat → Int64} (h : MTK c I L K P N) : NR K N L := by
  intro i j hi hj ni nj ki kj
  obtain ⟨q, m, l1, m8, e1, e2⟩ := (h i hi ni).2.2.2 ki
  obtain ⟨q', m', l2, m8', e3, e4⟩ := (h j hj nj).2.2.2 kj
  have a27 : ∀ {q m : Nat}, (∀ j, j < m → isL (c (q + j))) → m ≤ 8 → lv 27 c q m < 2 ^ 60 := fun hl hm => Nat.lt_of_lt_of_le (lvb_lt (b := 27) (by omega) hl) (Nat.le_trans (Nat.pow_le_pow_right (by omega) hm) (by decide))
  have a32 : ∀ {q m : Nat}, (∀ j, j < m → isL (c (q + j))) → m ≤ 8 → lv 32 c q m < 2 ^ 60 := fun hl hm => Nat.lt_of_lt_of_le (lvb_lt (b := 32) (by omega) hl) (Nat.le_trans (Nat.pow_le_pow_right (by omega) hm) (by decide))
  have b1 := a27 l1 m8
  have b2 := a27 l2 m8'
  have b3 := a32 l1 m8
  have b4 := a32 l2 m8'
  rw [e1, e2, e3, e4, pk_lEQ (by omega) (by omega), pk_lEQ (by omega) (by omega)]
  exact lv_eqv l1 l2
theorem MTK.tkm {c : Nat → Nat} {tp : Nat} {I : mI} {L : mJ} {K P : Nat → Int32} {N : Nat → Int64} {e : Nat → Nat} (h : MTK c I L K P N) (ht : TKS c tp K P N e) (h401 : ∀ t, 401 ≤ t → K t = nI 0) : TKM I K (fun t => (N t).toInt32) P := by
  refine ⟨fun i hi hn => ⟨(h i hi hn).1, (h i hi hn).2.1, (h i hi hn).2.2.1⟩, fun t => ?_, fun t z => ?_⟩
  · by_cases c : t ≤ 400
    · exact (ht.2 t c).ok.1
    · exact ⟨0, kk_in.2.1.1, h401 t (by omega)⟩
  · by_cases c : t ≤ 400
    · exact (ht.2 t c).ok.2 z
    · rw [h401 t (by omega)] at z
      exact absurd z (by decide +kernel)
