/-! what fills the barn most: what the reference answers -/
theorem fb_nof {P : mP} {r : mW} (hv : PV P) {a gone : Nat} (ha : a < 7) (h : ftA P r a = false) : fbS P r a gone = -2 := by
  unfold fbS
  rcases fb_spec (g := gnS P r a) (nx := bsS P r (6 - a)) (tgt := bsS P r (7 - a) gone) (gone := gone) 5 0 with ⟨q, _⟩ | ⟨x, _, _, _, q, _⟩
  · exact q
  · exfalso
    have e : sbS (gnS P r a) (bsS P r (6 - a)) x gone = NEV := by
      unfold sbS
      rw [if_pos (Or.inr (gn_no hv ha h))]
    have b := bs_b (P := P) (r := r) (7 - a) gone (by omega)
    rw [← q, e, NEV_t] at b
    omega
theorem nst_go {P : mP} {r : mW} (hv : PV P) : ∀ j k, j + k = 7 → nst P r k (goN P r j) = nst P r 7 0 % 6 ^ cnF P r k
  | 0, k, h => by
    have e : k = 7 := by omega
    subst e
    rw [show goN P r 0 = 0 from rfl, Nat.mod_eq_of_lt (fill_best hv 7 0 (by omega) (by omega)).1]
  | j + 1, k, h => by
    have ih := nst_go (r := r) hv j (k + 1) (by omega)
    have uc := upN_cn (P := P) (r := r) k (by omega)
    have u7 := upN_le (P := P) (r := r) 7
    have hC := six7 (cnF P r k) (by omega)
    rw [nst_s, cnF_s, show 6 - k = j by omega] at ih
    by_cases c : ftA P r j = true
    · rw [if_pos c, if_pos c] at ih
      have g2 := (dig_eq (n := nst P r 7 0) hC.2).2
      rw [← ih] at g2
      rw [← g2, goN_s]
      rcases fbS_or P r j (goN P r j) with q | ⟨x, q1, q2⟩
      · rw [q, if_pos (show (-2 : Int32) < nI 0 by decide +kernel), if_pos (show (-2 : Int32) < nI 0 by decide +kernel), Nat.mul_add_mod, Nat.mod_eq_of_lt (fill_best hv k _ (by omega) (goN_lt j)).1]
      · rw [q2, if_neg (n_pos (n := x) (by omega)), if_neg (n_pos (n := x) (by omega)), t_nI (by omega), Int.toNat_natCast, Nat.mul_add_mod, Nat.mod_eq_of_lt (fill_best hv k _ (by omega) (or_n _ (goN_lt j) x q1).2).1]
    · have c' : ftA P r j = false := by simpa using c
      rw [if_neg c, if_neg c, Nat.add_zero] at ih
      rw [goN_s, fb_nof hv (by omega) c', if_pos (show (-2 : Int32) < nI 0 by decide +kernel)]
      exact ih
theorem nst_dig {P : mP} {r : mW} (hv : PV P) {a : Nat} (ha : a < 7) (c : ftA P r a = true) : (nst P r 7 0 / 6 ^ cnF P r (6 - a) % 6 = 5 ∧ fbS P r a (goN P r a) = -2) ∨ ∃ x, x < 5 ∧ nst P r 7 0 / 6 ^ cnF P r (6 - a) % 6 = x ∧ fbS P r a (goN P r a) = nI x := by
  have ih := nst_go (r := r) hv a (6 - a + 1) (by omega)
  have uc := upN_cn (P := P) (r := r) (6 - a) (by omega)
  have u7 := upN_le (P := P) (r := r) 7
  have hC := six7 (cnF P r (6 - a)) (by omega)
  rw [nst_s, cnF_s, show 6 - (6 - a) = a by omega, if_pos c, if_pos c] at ih
  rw [(dig_eq (n := nst P r 7 0) hC.2).1, ← ih]
  rcases fbS_or P r a (goN P r a) with q | ⟨x, q1, q2⟩
  · rw [q, if_pos (show (-2 : Int32) < nI 0 by decide +kernel), Nat.mul_add_div hC.2, Nat.div_eq_of_lt (fill_best hv _ _ (by omega) (goN_lt a)).1]
    exact Or.inl ⟨rfl, rfl⟩
  · rw [q2, if_neg (n_pos (n := x) (by omega)), t_nI (by omega), Int.toNat_natCast, Nat.mul_add_div hC.2, Nat.div_eq_of_lt (fill_best hv _ _ (by omega) (or_n _ (goN_lt a) x q1).2).1]
    exact Or.inr ⟨x, q1, rfl, rfl⟩
/-- the best way so far -/
def IV (I : mI) (P : mP) (r : mW) (n : Nat) : Prop := (I 384 72 = -1 ∧ ∀ m, m < n → smW P r 7 0 m = none) ∨ ∃ w s, w < n ∧ I 384 72 = nI w ∧ (I 384 71).toInt = s ∧ smW P r 7 0 w = some s ∧ ∀ m, m < n → ∀ s', smW P r 7 0 m = some s' → s' ≤ s ∧ (m < w → s' < s)
theorem m_ways (d : Nat) {S : mS} {L : mJ} {P : mP} {r : mW} (G : Gd S) (x : Int32) : ∀ m n, m + n = 6 ^ cnF P r 7 → ∀ I, FL I P r 7 → IV I P r n → ∃ J, evk zcod none (d + 2) zc_X12_fill 28 [(0, .ref 384), (1, .int x), (2, .int (nI n))] [] (S, I, L) = evk zcod none (d + 2) zc_X12_fill 90 [(0, .ref 384), (1, .int x)] [] (S, J, L) ∧ FL J P r 7 ∧ IV J P r (6 ^ cnF P r 7) ∧ Fi mj I J := by
  have u7 := upN_le (P := P) (r := r) 7
  have hC := six7 (upN P r 7) (by omega)
  have cu := cn_up (P := P) (r := r)
  intro m
  induction m with
  | zero =>
    intro n hn I h iv
    rw [cu] at hn
    refine ⟨I, ?_, h, by rw [cu, ← hn, Nat.zero_add]; exact iv, Fi.rf⟩
    rw [B_X12_fill_28]
    simp only [gM G, if_true, h.1, m_sixes (d + 1) (show upN P r 7 < 8 by omega), bI_eq]
    rw [if_pos (nI_le (by omega) (by omega))]
  | succ m ih =>
    intro n hn I h iv
    have hn' := hn
    rw [cu] at hn'
    have nm : n % 6 ^ cnF P r 7 = n := Nat.mod_eq_of_lt (by omega)
    rw [B_X12_fill_28]
    have iw := m_isWay d (I := I) (L := L) G h (n := n) (by omega)
    rw [nm] at iw
    simp only [gM G, if_true, h.1, m_sixes (d + 1) (show upN P r 7 < 8 by omega), bI_eq]
    rw [if_neg (nI_ge (by omega) (by omega)), iw]
    simp only [bI_eq, if_true, B_X12_fill_84, nI_add]
    cases hs : smW P r 7 0 n with
    | none =>
      have i2 : IV I P r (n + 1) := by
        rcases iv with ⟨q1, q2⟩ | ⟨w, s, q1, q2, q3, q4, q5⟩
        · refine Or.inl ⟨q1, fun t ht => ?_⟩
          by_cases z : t = n
          · rw [z]; exact hs
          · exact q2 t (by omega)
        · refine Or.inr ⟨w, s, by omega, q2, q3, q4, fun t ht s' hs' => ?_⟩
          by_cases z : t = n
          · rw [z, hs] at hs'
            cases hs'
          · exact q5 t (by omega) s' hs'
      obtain ⟨J, e, j1, j2, j3⟩ := ih (n + 1) (by omega) I h i2
      refine ⟨J, ?_, j1, j2, j3⟩
      rw [if_neg (show ¬ ¬ (if (none : Option Int).isSome = true then nI 1 else nI 0) = nI 0 by decide +kernel)]
      exact e
    | some s =>
      obtain ⟨sx, eb, es⟩ := m_bringsAll d (I := I) (L := L) G h (n := n) (by omega) (by rw [nm]; exact hs)
      have one : ¬ (if (some s).isSome = true then nI 1 else nI 0) = nI 0 := by
        rw [if_pos (show (some s).isSome = true from rfl)]
        exact n10f
      rw [if_pos one, B_X12_fill_50]
      simp only [gM G, if_true, eb, bI_eq, B_X12_fill_84, nI_add]
      let I2 := uI (uI I 384 72 (nI n)) 384 71 sx
      have f2 : Fi mj I I2 := Fi.u (Fi.u Fi.rf (by unfold mj; omega)) (by unfold mj; omega)
      have put : (∀ t, t < n → ∀ s', smW P r 7 0 t = some s' → s' < s) → ∃ J, evk zcod none (d + 2) zc_X12_fill 74 [(0, .ref 384), (1, .int x), (2, .int (nI n)), (3, .int sx)] [] (S, I, L) = evk zcod none (d + 2) zc_X12_fill 90 [(0, .ref 384), (1, .int x)] [] (S, J, L) ∧ FL J P r 7 ∧ IV J P r (6 ^ cnF P r 7) ∧ Fi mj I J := by
        intro hb
        obtain ⟨J, e, j1, j2, j3⟩ := ih (n + 1) (by omega) I2 (h.cg ((uI_ix (by omega)).trans (uI_ix (by omega))) (fun x j q1 q2 => (uI_off (by omega)).trans (uI_off (by omega)))) (Or.inr ⟨n, s, by omega, (uI_ix (by omega)).trans (uI_same _ _ _ _), by rw [show I2 384 71 = sx from uI_same _ _ _ _]; exact es, hs, fun t ht s' hs' => by
          by_cases z : t = n
          · rw [z, hs] at hs'
            cases hs'
            exact ⟨Int.le_refl _, fun q => by omega⟩
          · have := hb t (by omega) s' hs'
            exact ⟨by omega, fun _ => this⟩⟩)
        refine ⟨J, ?_, j1, j2, f2.tr j3⟩
        rw [B_X12_fill_74]
        simp only [gM G, if_true, B_X12_fill_84, nI_add]
        exact e
      rcases iv with ⟨q1, q2⟩ | ⟨w, s0, q1, q2, q3, q4, q5⟩
      · rw [q1, if_pos (show (-1 : Int32) < nI 0 by decide +kernel)]
        exact put (fun t ht s' hs' => by rw [q2 t ht] at hs'; cases hs')
      · rw [q2, if_neg (n_pos (n := w) (by omega))]
        by_cases c : I 384 71 < sx
        · rw [if_pos c]
          rw [i_lt, q3, es] at c
          exact put (fun t ht s' hs' => by have := (q5 t ht s' hs').1; omega)
        · rw [if_neg c]
          rw [i_lt, q3, es] at c
          exact ih (n + 1) (by omega) I h (Or.inr ⟨w, s0, by omega, q2, q3, q4, fun t ht s' hs' => by
            by_cases z : t = n
            · rw [z, hs] at hs'
              cases hs'
              exact ⟨by omega, fun q => by omega⟩
            · exact q5 t (by omega) s' hs'⟩)
theorem iv_end {I : mI} {P : mP} {r : mW} (hv : PV P) (h : IV I P r (6 ^ cnF P r 7)) : I 384 72 = nI (nst P r 7 0) ∧ I 384 71 = bsS P r 7 0 := by
  obtain ⟨f1, f2, f3⟩ := fill_best (r := r) hv 7 0 (by omega) (by omega)
  rcases h with ⟨q1, q2⟩ | ⟨w, s, q1, q2, q3, q4, q5⟩
  · rw [q2 _ f1] at f2
    cases f2
  · obtain ⟨a1, a2⟩ := q5 _ f1 _ f2
    obtain ⟨b1, b2⟩ := f3 w q1 s q4
    have ew : w = nst P r 7 0 := by
      rcases Nat.lt_trichotomy w (nst P r 7 0) with z | z | z
      · have := b2 z
        omega
      · exact z
      · have := a2 z
        omega
    refine ⟨by rw [q2, ew], (i_eq _ _).mpr (by omega)⟩
