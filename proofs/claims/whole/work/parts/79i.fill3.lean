/-! what fills the barn most: the table finds the best way of all, and of these the first -/
theorem NEV_t : NEV.toInt = -1000000 := by decide +kernel
theorem lawT_b (P : mP) (h u st sz w : Int32) : 0 ≤ (lawT P h u st sz w).toInt ∧ (lawT P h u st sz w).toInt ≤ 99 := by
  have q := hld_in (v := lawf P 2 (vv h u st sz w 0 0 0)) le_099
  rw [i_le, i_le, t_nI (by omega), t_nI (by omega)] at q
  exact q
theorem lawP_b (P : mP) (h u st pr w : Int32) : 0 ≤ (lawP P h u st pr w).toInt ∧ (lawP P h u st pr w).toInt ≤ 99 := by
  have q := hld_in (v := lawf P 3 (vv h u st 0 w 0 0 pr)) le_099
  rw [i_le, i_le, t_nI (by omega), t_nI (by omega)] at q
  exact q
theorem earnS_b (P : mP) (r : mW) (a k : Nat) (pl wt : Int32) : 0 ≤ (earnS P r a k pl wt).toInt ∧ (earnS P r a k pl wt).toInt ≤ 99 := by
  unfold earnS
  split
  · exact lawP_b _ _ _ _ _ _
  · rw [t_nI (by omega)]
    omega
theorem sub_t {x y : Int32} (h : -2147483648 ≤ x.toInt - y.toInt) (h2 : x.toInt - y.toInt < 2147483648) : (x - y).toInt = x.toInt - y.toInt := by
  rw [Int32.toInt_sub, Int.bmod_eq_of_le (by omega) (by omega)]
theorem add_t {x y : Int32} (h : -2147483648 ≤ x.toInt + y.toInt) (h2 : x.toInt + y.toInt < 2147483648) : (x + y).toInt = x.toInt + y.toInt := by
  rw [Int32.toInt_add, Int.bmod_eq_of_le (by omega) (by omega)]
theorem gn_b {P : mP} {r : mW} {a b : Nat} (h : ¬ gnS P r a b = NEV) : -99 ≤ (gnS P r a b).toInt ∧ (gnS P r a b).toInt ≤ 99 := by
  unfold gnS at h ⊢
  split
  · split
    · have q1 := earnS_b P r a b (r (40 + b)) (nI 0)
      have q2 := lawT_b P (r 55) (nI (soN P r (nI 1))) (nI (soN P r (nI 2))) (sta P (30 + b)) (sta P (10 + a))
      rw [sub_t (by omega) (by omega)]
      omega
    · rename_i c1 c2
      rw [if_pos c1, if_neg c2] at h
      exact absurd rfl h
  · rename_i c1
    rw [if_neg c1] at h
    exact absurd rfl h
theorem mx_t (x y : Int32) : (mx32 x y).toInt = if x.toInt < y.toInt then y.toInt else x.toInt := by
  unfold mx32
  simp only [i_lt]
  split <;> rfl
/-- one option: the sum by silk b -/
theorem sb_t {g nx : Nat → Int32} {b gone : Nat} {K : Int} (hK : 0 ≤ K ∧ K ≤ 1000) (hg : ¬ g b = NEV → -99 ≤ (g b).toInt ∧ (g b).toInt ≤ 99) (hn : 0 ≤ (nx (gone ||| 2 ^ b)).toInt ∧ (nx (gone ||| 2 ^ b)).toInt ≤ K) : (gone / 2 ^ b % 2 = 1 ∨ g b = NEV) ∧ (sbS g nx b gone).toInt = -1000000 ∨ ¬ (gone / 2 ^ b % 2 = 1 ∨ g b = NEV) ∧ (sbS g nx b gone).toInt = (g b).toInt + (nx (gone ||| 2 ^ b)).toInt ∧ -99 ≤ (sbS g nx b gone).toInt ∧ (sbS g nx b gone).toInt ≤ K + 99 := by
  unfold sbS
  by_cases c : gone / 2 ^ b % 2 = 1 ∨ g b = NEV
  · rw [if_pos c]
    exact Or.inl ⟨c, NEV_t⟩
  · rw [if_neg c]
    have q := hg (fun z => c (Or.inr z))
    rw [add_t (by omega) (by omega)]
    exact Or.inr ⟨c, rfl, by omega, by omega⟩
/-- the most of the options -/
theorem mx_all {g nx : Nat → Int32} {gone : Nat} : ∀ n, (nx gone).toInt ≤ (mxS g nx gone n).toInt ∧ (∀ b, b < n → (sbS g nx b gone).toInt ≤ (mxS g nx gone n).toInt) ∧ ((mxS g nx gone n) = nx gone ∨ ∃ b, b < n ∧ mxS g nx gone n = sbS g nx b gone)
  | 0 => ⟨Int.le_refl _, fun b h => absurd h (Nat.not_lt_zero b), Or.inl rfl⟩
  | n + 1 => by
    obtain ⟨h1, h2, h3⟩ := mx_all (g := g) (nx := nx) (gone := gone) n
    have e : (mxS g nx gone (n + 1)).toInt = _ := mx_t (mxS g nx gone n) (sbS g nx n gone)
    have e2 : mxS g nx gone (n + 1) = mx32 (mxS g nx gone n) (sbS g nx n gone) := rfl
    refine ⟨?_, fun b hb => ?_, ?_⟩
    · rw [e]
      split <;> omega
    · rw [e]
      by_cases w : b = n
      · subst w
        split <;> omega
      · have := h2 b (by omega)
        split <;> omega
    · rw [e2]
      unfold mx32
      split
      · exact Or.inr ⟨n, by omega, rfl⟩
      · rcases h3 with h | ⟨b, q1, q2⟩
        · exact Or.inl h
        · exact Or.inr ⟨b, by omega, q2⟩
theorem bs_b {P : mP} {r : mW} : ∀ k gone, k ≤ 7 → 0 ≤ (bsS P r k gone).toInt ∧ (bsS P r k gone).toInt ≤ 99 * (k : Int)
  | 0, gone, _ => by
    unfold bsS
    rw [t_nI (by omega)]
    omega
  | k + 1, gone, hk => by
    have e : bsS P r (k + 1) gone = mxS (gnS P r (6 - k)) (bsS P r k) gone 5 := rfl
    rw [e]
    have b0 := bs_b (P := P) (r := r) k gone (by omega)
    obtain ⟨h1, h2, h3⟩ := mx_all (g := gnS P r (6 - k)) (nx := bsS P r k) (gone := gone) 5
    refine ⟨by omega, ?_⟩
    rcases h3 with h | ⟨b, q1, q2⟩
    · rw [h]
      omega
    · rw [q2]
      rcases sb_t (g := gnS P r (6 - k)) (nx := bsS P r k) (b := b) (gone := gone) (K := 99 * (k : Int)) ⟨by omega, by omega⟩ (fun z => gn_b z) (bs_b k _ (by omega)) with ⟨_, w⟩ | ⟨_, _, _, w⟩
      · omega
      · omega
/-- the first best digit -/
theorem fb_spec {g nx : Nat → Int32} {tgt : Int32} {gone : Nat} : ∀ n b, (fbF g nx tgt gone n b = -2 ∧ ∀ x, b ≤ x → x < b + n → ¬ sbS g nx x gone = tgt) ∨ ∃ x, b ≤ x ∧ x < b + n ∧ fbF g nx tgt gone n b = nI x ∧ sbS g nx x gone = tgt ∧ ∀ y, b ≤ y → y < x → ¬ sbS g nx y gone = tgt
  | 0, b => Or.inl ⟨rfl, fun x h1 h2 => by omega⟩
  | n + 1, b => by
    unfold fbF
    by_cases c : sbS g nx b gone = tgt
    · rw [if_pos c]
      exact Or.inr ⟨b, by omega, by omega, rfl, c, fun y h1 h2 => by omega⟩
    · rw [if_neg c]
      rcases fb_spec (g := g) (nx := nx) (tgt := tgt) (gone := gone) n (b + 1) with ⟨h1, h2⟩ | ⟨x, h1, h2, h3, h4, h5⟩
      · refine Or.inl ⟨h1, fun x q1 q2 => ?_⟩
        by_cases w : x = b
        · subst w; exact c
        · exact h2 x (by omega) (by omega)
      · refine Or.inr ⟨x, by omega, by omega, h3, h4, fun y q1 q2 => ?_⟩
        by_cases w : y = b
        · subst w; exact c
        · exact h5 y (by omega) q2
