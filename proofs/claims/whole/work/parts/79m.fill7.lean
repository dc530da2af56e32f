/-! what fills the barn most: ways tried one by one -/
theorem i_div {n c : Nat} (hn : n < 2147483648) (hc : c < 2147483648) (h0 : 0 < c) : nI n / nI c = nI (n / c) := by
  have q : n / c ≤ n := Nat.div_le_self n c
  have e : ((n : Int)).tdiv (c : Int) = ((n / c : Nat) : Int) := by
    rw [Int.tdiv_eq_ediv_of_nonneg (by omega)]
    rfl
  rw [i_eq, Int32.toInt_div, t_nI hn, t_nI hc, e]
  generalize n / c = m at *
  rw [t_nI (by omega)]
  have e2 : ((m : Nat) : Int).bmod (2 ^ 32) = (m : Int) := Int.bmod_eq_of_le (by omega) (by omega)
  exact e2
theorem i_rem {n : Nat} (hn : n < 2147483648) : zrem (nI n) (nI 6) = nI (n % 6) := by
  show nI n - nI n / nI 6 * nI 6 = nI (n % 6)
  have q := Nat.div_add_mod n 6
  rw [i_div hn (by omega) (by omega), pk_mul, pk_sub (by omega), show n - n / 6 * 6 = n % 6 by omega]
theorem six7 : ∀ k, k < 8 → 6 ^ k < 1000000 ∧ 0 < 6 ^ k := by decide +kernel
theorem m_sixes (d : Nat) {S : mS} {I : mI} {L : mJ} {k : Nat} (hk : k < 8) : evM zcod (d + 1) 240 [.int (nI k)] (S, I, L) = some (some (.int (nI (6 ^ k))), (S, I, L)) := by
  have key : ∀ n j, n + j = k → evk zcod none d zc_X12_sixes 4 [(0, .int (nI k)), (1, .int (nI (6 ^ j))), (2, .int (nI j))] [] (S, I, L) = some (some (.int (nI (6 ^ k))), (S, I, L)) := by
    intro n
    induction n with
    | zero =>
      intro j hj
      rw [B_X12_sixes_4, if_pos (nI_le (by omega) (by omega)), B_X12_sixes_20, show k = j by omega]
    | succ n ih =>
      intro j hj
      rw [B_X12_sixes_4, if_neg (nI_ge (by omega) (by omega)), pk_mul, nI_add, ← Nat.pow_succ]
      exact ih (j + 1) (by omega)
  rw [E_X12_sixes, B_X12_sixes_0]
  exact key k 0 (by omega)
/-- a digit of a way -/
theorem dig_eq {n c : Nat} (hc : 0 < 6 ^ c) : n / 6 ^ c % 6 = n % 6 ^ (c + 1) / 6 ^ c ∧ n % 6 ^ (c + 1) % 6 ^ c = n % 6 ^ c := by
  rw [Nat.pow_succ]
  exact ⟨(Nat.mod_mul_right_div_self n (6 ^ c) 6).symm, Nat.mod_mul_right_mod n (6 ^ c) 6⟩
theorem sh_6 : ∀ g, g < 64 → ∀ b, b < 5 → (nI g >>> (nI b &&& nI 31)) &&& nI 1 = nI (g / 2 ^ b % 2) := by decide +kernel
theorem or_6 : ∀ g, g < 64 → ∀ b, b < 6 → nI g ||| (nI 1 <<< (nI b &&& nI 31)) = nI (g ||| 2 ^ b) ∧ g ||| 2 ^ b < 64 ∧ (b = 5 → (g ||| 2 ^ b) % 32 = g % 32) ∧ (b < 5 → (g ||| 2 ^ b) % 32 = g % 32 ||| 2 ^ b) := by decide +kernel
theorem bit_6 : ∀ g, g < 64 → ∀ b, b < 5 → g / 2 ^ b % 2 = g % 32 / 2 ^ b % 2 := by decide +kernel
theorem m_isWay (d : Nat) {S : mS} {I : mI} {L : mJ} {P : mP} {r : mW} (G : Gd S) (h : FL I P r 7) {n : Nat} (hn : n < 1000000) : evM zcod (d + 2) 242 [.ref 384, .int (nI n)] (S, I, L) = some (some (.int (if (smW P r 7 0 (n % 6 ^ cnF P r 7)).isSome = true then nI 1 else nI 0)), (S, I, L)) := by
  have key : ∀ k, k ≤ 7 → ∀ g, g < 64 → evk zcod none (d + 1) zc_X12_isWay 4 [(0, .ref 384), (1, .int (nI n)), (2, .int (nI g)), (3, .int (nI (upN P r (7 - k))))] [] (S, I, L) = some (some (.int (if (smW P r k (g % 32) (n % 6 ^ cnF P r k)).isSome = true then nI 1 else nI 0)), (S, I, L)) := by
    intro k
    induction k with
    | zero =>
      intro hk g hg
      have u7 := upN_le (P := P) (r := r) 7
      rw [B_X12_isWay_4]
      simp only [gM G, if_true, h.1, Nat.sub_zero]
      rw [if_pos (nI_le (Nat.le_refl _) (by omega)), B_X12_isWay_76]
      rfl
    | succ k ih =>
      intro hk g hg
      by_cases c : ftA P r (6 - k) = true
      · have u7 := upN_le (P := P) (r := r) 7
        have ui := upN_lt c 7 (by omega)
        have uc := upN_cn (P := P) (r := r) (k + 1) (by omega)
        rw [cnF_s, if_pos c, show 7 - (k + 1) = 6 - k by omega] at uc
        have us : upN P r (7 - k) = upN P r (6 - k) + 1 := by rw [show 7 - k = (6 - k) + 1 by omega, upN_s, if_pos c]
        have nx := ih (by omega)
        rw [us] at nx
        have hC := six7 (cnF P r k) (by omega)
        obtain ⟨g1, g2⟩ := dig_eq (n := n) hC.2
        have d6 : n / 6 ^ cnF P r k % 6 < 6 := Nat.mod_lt _ (by omega)
        have nd : n / 6 ^ cnF P r k ≤ n := Nat.div_le_self _ _
        obtain ⟨-, dg⟩ := h.2 (6 - k) (by omega) c
        rw [B_X12_isWay_4, show 7 - (k + 1) = 6 - k by omega, cnF_s, if_pos c, smW_s, if_pos c, ← g1, g2]
        simp only [gM G, if_true, h.1]
        rw [if_neg (nI_ge ui (by omega)), pk_sub (by omega), pk_sub (by omega), show upN P r 7 - 1 - upN P r (6 - k) = cnF P r k by omega, m_sixes d (show cnF P r k < 8 by omega)]
        have n0 : ¬ nI (6 ^ cnF P r k) = nI 0 := fun q => by
          have := (nI_eq (by omega) (by omega)).mp q
          omega
        generalize hD : n / 6 ^ cnF P r k % 6 = D at *
        have y1 : zin (nI (6 * upN P r (6 - k) + D)) 42 = True := ixT (by omega) (by omega)
        have y2 : zix (nI (6 * upN P r (6 - k) + D)) = 6 * upN P r (6 - k) + D := ixI (by omega)
        simp only [bI_eq, if_true, if_neg n0, show (nI 6 = nI 0) = False from eq_false (by decide +kernel), if_false, gM G, true_and, i_div (show n < 2147483648 by omega) (show 6 ^ cnF P r k < 2147483648 by omega) hC.2, i_rem (show n / 6 ^ cnF P r k < 2147483648 by omega), hD, pk_mul, nI_add, y1, y2, B_X12_isWay_63, B_X12_isWay_61]
        obtain ⟨o1, o2, o3, o4⟩ := or_6 g hg D d6
        obtain ⟨q1, q2⟩ := dg D d6
        by_cases D5 : D = 5
        · rw [(q2 D5).1, if_neg (by rw [n10]; exact fun q => q), if_pos (nI_le (by omega) (by omega)), if_pos D5, o1]
          have := nx _ o2
          rw [o3 D5] at this
          exact this
        · have D4 : D < 5 := by omega
          rw [(q1 D4).1, if_neg (show ¬ nI 5 ≤ nI D from nI_ge D4 (by omega)), sh_6 g hg D D4, if_neg D5, ← bit_6 g hg D D4]
          have m2 : g / 2 ^ D % 2 < 2 := Nat.mod_lt _ (by omega)
          by_cases cn : gnS P r (6 - k) D = NEV
          · rw [if_pos cn, if_pos rfl, if_pos (Or.inr cn)]
            rfl
          · rw [if_neg cn, if_neg (by rw [n10]; exact fun q => q)]
            by_cases cb : g / 2 ^ D % 2 = 1
            · rw [cb, if_neg (fun q => q rfl), if_pos (Or.inl rfl)]
              rfl
            · have c0 : g / 2 ^ D % 2 = 0 := by omega
              have c3 : ¬ ((0 : Nat) = 1 ∨ gnS P r (6 - k) D = NEV) := by rintro (q | q); exact absurd q (by omega); exact cn q
              rw [c0, if_pos (show ¬ nI 0 = nI 1 by decide +kernel), if_neg c3, o1]
              have := nx _ o2
              rw [o4 D4] at this
              rw [this]
              cases smW P r k (g % 32 ||| 2 ^ D) (n % 6 ^ cnF P r k) <;> rfl
      · have c' : ftA P r (6 - k) = false := by simpa using c
        have us : upN P r (7 - k) = upN P r (6 - k) := by rw [show 7 - k = (6 - k) + 1 by omega, upN_s, c']; rfl
        have nx := ih (by omega) g hg
        rw [us] at nx
        rw [show 7 - (k + 1) = 6 - k by omega, cnF_s, if_neg c, Nat.add_zero, smW_s, if_neg c]
        exact nx
  rw [E_X12_isWay, B_X12_isWay_0]
  exact key 7 (by omega) 0 (by omega)
/-- what a way brings -/
theorem m_bringsAll (d : Nat) {S : mS} {I : mI} {L : mJ} {P : mP} {r : mW} (G : Gd S) (h : FL I P r 7) {n : Nat} (hn : n < 1000000) {s : Int} (hs : smW P r 7 0 (n % 6 ^ cnF P r 7) = some s) : ∃ x : Int32, evM zcod (d + 2) 243 [.ref 384, .int (nI n)] (S, I, L) = some (some (.int x), (S, I, L)) ∧ x.toInt = s := by
  have key : ∀ k, k ≤ 7 → ∀ gone s (acc : Int32), smW P r k gone (n % 6 ^ cnF P r k) = some s → -99 * (7 - (k : Int)) ≤ acc.toInt → acc.toInt ≤ 99 * (7 - (k : Int)) → ∃ x : Int32, evk zcod none (d + 1) zc_X12_bringsAll 4 [(0, .ref 384), (1, .int (nI n)), (2, .int acc), (3, .int (nI (upN P r (7 - k))))] [] (S, I, L) = some (some (.int x), (S, I, L)) ∧ x.toInt = acc.toInt + s := by
    intro k
    induction k with
    | zero =>
      intro hk gone s acc hs b1 b2
      have u7 := upN_le (P := P) (r := r) 7
      have s0 : s = 0 := by
        have : some (0 : Int) = some s := hs
        exact (Option.some.inj this).symm
      refine ⟨acc, ?_, by omega⟩
      rw [B_X12_bringsAll_4]
      simp only [gM G, if_true, h.1, Nat.sub_zero]
      rw [if_pos (nI_le (Nat.le_refl _) (by omega)), B_X12_bringsAll_47]
    | succ k ih =>
      intro hk gone s acc hs b1 b2
      by_cases c : ftA P r (6 - k) = true
      · have u7 := upN_le (P := P) (r := r) 7
        have ui := upN_lt c 7 (by omega)
        have uc := upN_cn (P := P) (r := r) (k + 1) (by omega)
        rw [cnF_s, if_pos c, show 7 - (k + 1) = 6 - k by omega] at uc
        have us : upN P r (7 - k) = upN P r (6 - k) + 1 := by rw [show 7 - k = (6 - k) + 1 by omega, upN_s, if_pos c]
        have nx := ih (by omega)
        rw [us] at nx
        have hC := six7 (cnF P r k) (by omega)
        obtain ⟨g1, g2⟩ := dig_eq (n := n) hC.2
        have d6 : n / 6 ^ cnF P r k % 6 < 6 := Nat.mod_lt _ (by omega)
        have nd : n / 6 ^ cnF P r k ≤ n := Nat.div_le_self _ _
        obtain ⟨-, dg⟩ := h.2 (6 - k) (by omega) c
        rw [cnF_s, if_pos c, smW_s, if_pos c, ← g1, g2] at hs
        rw [B_X12_bringsAll_4, show 7 - (k + 1) = 6 - k by omega]
        simp only [gM G, if_true, h.1]
        rw [if_neg (nI_ge ui (by omega)), pk_sub (by omega), pk_sub (by omega), show upN P r 7 - 1 - upN P r (6 - k) = cnF P r k by omega, m_sixes d (show cnF P r k < 8 by omega)]
        have n0 : ¬ nI (6 ^ cnF P r k) = nI 0 := fun q => by
          have := (nI_eq (by omega) (by omega)).mp q
          omega
        generalize hD : n / 6 ^ cnF P r k % 6 = D at *
        have y1 : zin (nI (6 * upN P r (6 - k) + D)) 42 = True := ixT (by omega) (by omega)
        have y2 : zix (nI (6 * upN P r (6 - k) + D)) = 6 * upN P r (6 - k) + D := ixI (by omega)
        simp only [bI_eq, if_true, if_neg n0, show (nI 6 = nI 0) = False from eq_false (by decide +kernel), if_false, gM G, true_and, i_div (show n < 2147483648 by omega) (show 6 ^ cnF P r k < 2147483648 by omega) hC.2, i_rem (show n / 6 ^ cnF P r k < 2147483648 by omega), hD, pk_mul, nI_add, y1, y2]
        obtain ⟨q1, q2⟩ := dg D d6
        by_cases D5 : D = 5
        · rw [if_pos D5] at hs
          have z0 : (acc + nI 0).toInt = acc.toInt := by
            rw [add_t (by rw [t_nI (by omega)]; omega) (by rw [t_nI (by omega)]; omega), t_nI (by omega)]
            omega
          rw [(q2 D5).2]
          obtain ⟨x, e, ex⟩ := nx gone s (acc + nI 0) hs (by omega) (by omega)
          exact ⟨x, e, by omega⟩
        · have D4 : D < 5 := by omega
          rw [if_neg D5] at hs
          by_cases cz : gone / 2 ^ D % 2 = 1 ∨ gnS P r (6 - k) D = NEV
          · rw [if_pos cz] at hs
            cases hs
          · rw [if_neg cz] at hs
            have cn : ¬ gnS P r (6 - k) D = NEV := fun q => cz (Or.inr q)
            have gb := gn_b cn
            rw [(q1 D4).2 cn]
            cases hs2 : smW P r k (gone ||| 2 ^ D) (n % 6 ^ cnF P r k) with
            | none => rw [hs2] at hs; cases hs
            | some s' =>
              rw [hs2] at hs
              have es : (gnS P r (6 - k) D).toInt + s' = s := by
                have : some ((gnS P r (6 - k) D).toInt + s') = some s := hs
                exact Option.some.inj this
              have z0 : (acc + gnS P r (6 - k) D).toInt = acc.toInt + (gnS P r (6 - k) D).toInt := add_t (by omega) (by omega)
              obtain ⟨x, e, ex⟩ := nx _ s' (acc + gnS P r (6 - k) D) hs2 (by omega) (by omega)
              exact ⟨x, e, by omega⟩
      · have c' : ftA P r (6 - k) = false := by simpa using c
        have us : upN P r (7 - k) = upN P r (6 - k) := by rw [show 7 - k = (6 - k) + 1 by omega, upN_s, c']; rfl
        have nx := ih (by omega)
        rw [us] at nx
        rw [cnF_s, if_neg c, Nat.add_zero, smW_s, if_neg c] at hs
        rw [show 7 - (k + 1) = 6 - k by omega]
        exact nx gone s acc hs (by omega) (by omega)
  rw [E_X12_bringsAll, B_X12_bringsAll_0]
  obtain ⟨x, e, ex⟩ := key 7 (by omega) 0 s (nI 0) hs (by rw [t_nI (by omega)]; omega) (by rw [t_nI (by omega)]; omega)
  refine ⟨x, e, ?_⟩
  rw [ex, t_nI (by omega)]
  omega
