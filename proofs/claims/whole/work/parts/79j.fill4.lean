/-! ways as numbers to the base six -/
def ftA (P : mP) (r : mW) (a : Nat) : Bool := decide (a < nLo P) && decide (r (7 + a) = nI 0)
def cnF (P : mP) (r : mW) : Nat → Nat
  | 0 => 0
  | k + 1 => cnF P r k + (if ftA P r (6 - k) = true then 1 else 0)
def smW (P : mP) (r : mW) : Nat → Nat → Nat → Option Int
  | 0, _, _ => some 0
  | k + 1, gone, n => if ftA P r (6 - k) = true then (if n / 6 ^ cnF P r k = 5 then smW P r k gone (n % 6 ^ cnF P r k) else if gone / 2 ^ (n / 6 ^ cnF P r k) % 2 = 1 ∨ gnS P r (6 - k) (n / 6 ^ cnF P r k) = NEV then none else (smW P r k (gone ||| 2 ^ (n / 6 ^ cnF P r k)) (n % 6 ^ cnF P r k)).map (fun s => (gnS P r (6 - k) (n / 6 ^ cnF P r k)).toInt + s)) else smW P r k gone n
def nst (P : mP) (r : mW) : Nat → Nat → Nat
  | 0, _ => 0
  | k + 1, gone => if ftA P r (6 - k) = true then (if fbS P r (6 - k) gone < nI 0 then 6 ^ cnF P r k * 5 + nst P r k gone else 6 ^ cnF P r k * (fbS P r (6 - k) gone).toInt.toNat + nst P r k (gone ||| 2 ^ (fbS P r (6 - k) gone).toInt.toNat)) else nst P r k gone
theorem cnF_s {P : mP} {r : mW} {k : Nat} : cnF P r (k + 1) = cnF P r k + (if ftA P r (6 - k) = true then 1 else 0) := rfl
theorem smW_s {P : mP} {r : mW} {k gone n : Nat} : smW P r (k + 1) gone n = if ftA P r (6 - k) = true then (if n / 6 ^ cnF P r k = 5 then smW P r k gone (n % 6 ^ cnF P r k) else if gone / 2 ^ (n / 6 ^ cnF P r k) % 2 = 1 ∨ gnS P r (6 - k) (n / 6 ^ cnF P r k) = NEV then none else (smW P r k (gone ||| 2 ^ (n / 6 ^ cnF P r k)) (n % 6 ^ cnF P r k)).map (fun s => (gnS P r (6 - k) (n / 6 ^ cnF P r k)).toInt + s)) else smW P r k gone n := rfl
theorem nst_s {P : mP} {r : mW} {k gone : Nat} : nst P r (k + 1) gone = if ftA P r (6 - k) = true then (if fbS P r (6 - k) gone < nI 0 then 6 ^ cnF P r k * 5 + nst P r k gone else 6 ^ cnF P r k * (fbS P r (6 - k) gone).toInt.toNat + nst P r k (gone ||| 2 ^ (fbS P r (6 - k) gone).toInt.toNat)) else nst P r k gone := rfl
theorem fbS_k {P : mP} {r : mW} {k gone : Nat} (hk : k < 7) : fbS P r (6 - k) gone = fbF (gnS P r (6 - k)) (bsS P r k) (bsS P r (k + 1) gone) gone 5 0 := by
  unfold fbS
  rw [show 6 - (6 - k) = k by omega, show 7 - (6 - k) = k + 1 by omega]
theorem gn_no {P : mP} {r : mW} (hv : PV P) {a b : Nat} (ha : a < 7) (h : ftA P r a = false) : gnS P r a b = NEV := by
  have : rdy P r (nI a) (nI b) = false := by
    cases c : rdy P r (nI a) (nI b)
    · rfl
    · have c2 := c
      obtain ⟨a', b', ha', hb', ea, eb⟩ := rdy_in c
      have v1 := hv.1
      have : a = a' := (nI_eq (by omega) (by omega)).mp ea
      subst this
      unfold rdy ftL at c2
      simp only [Bool.and_eq_true, decide_eq_true_eq] at c2
      rw [t_nI (by omega), Int.toNat_natCast] at c2
      unfold ftA at h
      rw [decide_eq_true ha', decide_eq_true c2.1.2] at h
      cases h
  unfold gnS
  rw [this]
  rfl
theorem fill_best {P : mP} {r : mW} (hv : PV P) : ∀ k gone, k ≤ 7 → gone < 32 → nst P r k gone < 6 ^ cnF P r k ∧ smW P r k gone (nst P r k gone) = some (bsS P r k gone).toInt ∧ ∀ n, n < 6 ^ cnF P r k → ∀ s, smW P r k gone n = some s → s ≤ (bsS P r k gone).toInt ∧ (n < nst P r k gone → s < (bsS P r k gone).toInt)
  | 0, gone, _, _ => by
    refine ⟨by simp [nst, cnF], ?_, fun n hn s hs => ?_⟩
    · show some (0 : Int) = some (nI 0).toInt
      rw [t_nI (by omega)]
      rfl
    · have : s = 0 := by
        have : some (0 : Int) = some s := hs
        cases this
        rfl
      refine ⟨?_, fun q => absurd q (Nat.not_lt_zero n)⟩
      show s ≤ (nI 0).toInt
      rw [t_nI (by omega)]
      omega
  | k + 1, gone, hk, hg => by
    have e : bsS P r (k + 1) gone = mxS (gnS P r (6 - k)) (bsS P r k) gone 5 := rfl
    obtain ⟨h1, h2, h3⟩ := mx_all (g := gnS P r (6 - k)) (nx := bsS P r k) (gone := gone) 5
    rw [← e] at h1 h2 h3
    have b0 := bs_b (P := P) (r := r) k gone (by omega)
    have opt : ∀ b, (gone / 2 ^ b % 2 = 1 ∨ gnS P r (6 - k) b = NEV) ∧ (sbS (gnS P r (6 - k)) (bsS P r k) b gone).toInt = -1000000 ∨ ¬ (gone / 2 ^ b % 2 = 1 ∨ gnS P r (6 - k) b = NEV) ∧ (sbS (gnS P r (6 - k)) (bsS P r k) b gone).toInt = (gnS P r (6 - k) b).toInt + (bsS P r k (gone ||| 2 ^ b)).toInt := fun b => by
      rcases sb_t (g := gnS P r (6 - k)) (nx := bsS P r k) (b := b) (gone := gone) (K := 99 * (k : Int)) ⟨by omega, by omega⟩ (fun z => gn_b z) (bs_b k _ (by omega)) with ⟨w1, w2⟩ | ⟨w1, w2, _, _⟩
      · exact Or.inl ⟨w1, w2⟩
      · exact Or.inr ⟨w1, w2⟩
    have fk := fbS_k (P := P) (r := r) (gone := gone) (show k < 7 by omega)
    have fs := fb_spec (g := gnS P r (6 - k)) (nx := bsS P r k) (tgt := bsS P r (k + 1) gone) (gone := gone) 5 0
    rw [← fk] at fs
    have ih0 := fill_best (r := r) hv k gone (by omega) hg
    have ne_t : ∀ {x y : Int32}, ¬ x = y → x.toInt ≤ y.toInt → x.toInt < y.toInt := fun {x y} h h' => by
      have h3 : ¬ x.toInt = y.toInt := fun q => h ((i_eq _ _).mpr q)
      omega
    by_cases c : ftA P r (6 - k) = true
    · have hC : 0 < 6 ^ cnF P r k := Nat.pos_of_ne_zero (by intro q; have := Nat.pow_eq_zero.mp q; omega)
      have hS : 6 ^ cnF P r (k + 1) = 6 ^ cnF P r k * 6 := by rw [cnF_s, if_pos c, Nat.pow_succ]
      rw [hS, nst_s, if_pos c]
      have dm : ∀ x t, t < 6 ^ cnF P r k → (6 ^ cnF P r k * x + t) / 6 ^ cnF P r k = x ∧ (6 ^ cnF P r k * x + t) % 6 ^ cnF P r k = t := fun x t ht => by
        rw [Nat.mul_add_div hC, Nat.div_eq_of_lt ht, Nat.mul_add_mod, Nat.mod_eq_of_lt ht]
        exact ⟨rfl, rfl⟩
      have lt6 : ∀ x t, x ≤ 5 → t < 6 ^ cnF P r k → 6 ^ cnF P r k * x + t < 6 ^ cnF P r k * 6 := fun x t hx ht => by
        have := Nat.mul_le_mul_left (6 ^ cnF P r k) (show x + 1 ≤ 6 by omega)
        rw [Nat.mul_succ] at this
        omega
      -- what a way of which digit can bring
      have ways : ∀ x t, x ≤ 5 → t < 6 ^ cnF P r k → (x = 5 → ((bsS P r k gone).toInt = (bsS P r (k + 1) gone).toInt → t = nst P r k gone) ∧ ∀ b, b < 5 → (sbS (gnS P r (6 - k)) (bsS P r k) b gone).toInt < (bsS P r (k + 1) gone).toInt) → (x < 5 → t = nst P r k (gone ||| 2 ^ x) ∧ ∀ b, b < x → (sbS (gnS P r (6 - k)) (bsS P r k) b gone).toInt < (bsS P r (k + 1) gone).toInt) → ∀ n, n < 6 ^ cnF P r k * 6 → ∀ s, smW P r (k + 1) gone n = some s → s ≤ (bsS P r (k + 1) gone).toInt ∧ (n < 6 ^ cnF P r k * x + t → s < (bsS P r (k + 1) gone).toInt) := by
        intro x t hx ht w5 wl n hn s hs
        have d6 : n / 6 ^ cnF P r k < 6 := Nat.div_lt_of_lt_mul hn
        have hr := Nat.mod_lt n hC
        have hdm := Nat.div_add_mod n (6 ^ cnF P r k)
        have gt : n < 6 ^ cnF P r k * x + t → n / 6 ^ cnF P r k ≤ x := fun q => by
          rcases Nat.lt_or_ge x (n / 6 ^ cnF P r k) with w | w
          · have := Nat.mul_le_mul_left (6 ^ cnF P r k) (show x + 1 ≤ n / 6 ^ cnF P r k by omega)
            rw [Nat.mul_succ] at this
            omega
          · exact w
        rw [smW_s, if_pos c] at hs
        by_cases d5 : n / 6 ^ cnF P r k = 5
        · rw [if_pos d5] at hs
          obtain ⟨q1, q2⟩ := ih0.2.2 _ hr s hs
          refine ⟨by omega, fun q => ?_⟩
          have := gt q
          have x5 : x = 5 := by omega
          obtain ⟨w1, w2⟩ := w5 x5
          by_cases w3 : (bsS P r k gone).toInt = (bsS P r (k + 1) gone).toInt
          · have := w1 w3
            rw [d5] at hdm
            rw [x5] at q
            have := q2 (by omega)
            omega
          · omega
        · rw [if_neg d5] at hs
          have bl : n / 6 ^ cnF P r k < 5 := by omega
          rcases opt (n / 6 ^ cnF P r k) with ⟨w1, w2⟩ | ⟨w1, w2⟩
          · rw [if_pos w1] at hs
            cases hs
          · rw [if_neg w1] at hs
            have ihb := fill_best (r := r) hv k (gone ||| 2 ^ (n / 6 ^ cnF P r k)) (by omega) (or_n gone hg _ bl).2
            cases hs2 : smW P r k (gone ||| 2 ^ (n / 6 ^ cnF P r k)) (n % 6 ^ cnF P r k) with
            | none => rw [hs2] at hs; cases hs
            | some s' =>
              rw [hs2] at hs
              have es : (gnS P r (6 - k) (n / 6 ^ cnF P r k)).toInt + s' = s := by
                have : some ((gnS P r (6 - k) (n / 6 ^ cnF P r k)).toInt + s') = some s := hs
                exact Option.some.inj this
              obtain ⟨q1, q2⟩ := ihb.2.2 _ hr s' hs2
              have hb := h2 _ bl
              refine ⟨by omega, fun q => ?_⟩
              have le := gt q
              by_cases x5 : x = 5
              · have := (w5 x5).2 _ bl
                omega
              · obtain ⟨z1, z2⟩ := wl (by omega)
                by_cases ex : n / 6 ^ cnF P r k = x
                · have hdm2 := hdm
                  rw [ex] at hdm2
                  have z3 : t = nst P r k (gone ||| 2 ^ (n / 6 ^ cnF P r k)) := by rw [ex]; exact z1
                  have := q2 (by omega)
                  omega
                · have := z2 _ (show n / 6 ^ cnF P r k < x by omega)
                  omega
      rcases fs with ⟨f1, f2⟩ | ⟨x, f0, f1, f2, f3, f4⟩
      · rw [f1, if_pos (show (-2 : Int32) < nI 0 by decide +kernel)]
        have eW : bsS P r (k + 1) gone = bsS P r k gone := by
          rcases h3 with h | ⟨b, q1, q2⟩
          · exact h
          · exact absurd q2.symm (f2 b (by omega) (by omega))
        refine ⟨lt6 5 _ (by omega) ih0.1, ?_, ways 5 _ (by omega) ih0.1 (fun _ => ⟨fun _ => rfl, fun b hb => ne_t (f2 b (by omega) (by omega)) (h2 b hb)⟩) (fun q => by omega)⟩
        obtain ⟨a1, a2⟩ := dm 5 _ ih0.1
        rw [smW_s, if_pos c, a1, a2, if_pos rfl, eW]
        exact ih0.2.1
      · have x5 : x < 5 := by omega
        rw [f2, if_neg (n_pos (n := x) (by omega)), t_nI (by omega), Int.toNat_natCast]
        have ihb := fill_best (r := r) hv k (gone ||| 2 ^ x) (by omega) (or_n gone hg _ x5).2
        refine ⟨lt6 x _ (by omega) ihb.1, ?_, ways x _ (by omega) ihb.1 (fun q => by omega) (fun _ => ⟨rfl, fun b hb => ne_t (f4 b (by omega) hb) (h2 b (by omega))⟩)⟩
        obtain ⟨a1, a2⟩ := dm x _ ihb.1
        rw [smW_s, if_pos c, a1, a2, if_neg (show ¬ x = 5 by omega)]
        rcases opt x with ⟨w1, w2⟩ | ⟨w1, w2⟩
        · rw [f3] at w2
          omega
        · rw [if_neg w1, ihb.2.1]
          show some _ = some _
          rw [f3] at w2
          rw [w2]
    · have c' : ftA P r (6 - k) = false := by simpa using c
      have hS : cnF P r (k + 1) = cnF P r k := by rw [cnF_s, if_neg c, Nat.add_zero]
      have eW : bsS P r (k + 1) gone = bsS P r k gone := by
        rcases h3 with h | ⟨b, q1, q2⟩
        · exact h
        · exfalso
          rcases opt b with ⟨w1, w2⟩ | ⟨w1, w2⟩
          · rw [← q2] at w2
            omega
          · exact w1 (Or.inr (gn_no hv (by omega) c'))
      rw [hS, nst_s, if_neg c, eW, smW_s, if_neg c]
      refine ⟨ih0.1, ih0.2.1, fun n hn s hs => ?_⟩
      rw [smW_s, if_neg c] at hs
      exact ih0.2.2 n hn s hs
