/-! ints: rows that every walk needs -/
theorem i_lt (a b : Int32) : a < b ↔ a.toInt < b.toInt := Int32.lt_iff_toInt_lt
theorem i_le (a b : Int32) : a ≤ b ↔ a.toInt ≤ b.toInt := Int32.le_iff_toInt_le
theorem i_eq (a b : Int32) : a = b ↔ a.toInt = b.toInt := Int32.toInt_inj.symm
theorem i_bd (a : Int32) : -2147483648 ≤ a.toInt ∧ a.toInt < 2147483648 := ⟨Int32.le_toInt a, Int32.toInt_lt a⟩
theorem i_of {x : Int32} (h : 0 ≤ x.toInt) : x = nI x.toInt.toNat := by
  have h1 := i_bd x
  rw [i_eq, nI_toInt (by omega)]
  omega
theorem i_of2 {x : Int32} {n : Nat} (h : 0 ≤ x.toInt) (h2 : x.toInt < (n : Int)) : ∃ k : Nat, k < n ∧ x = nI k := ⟨x.toInt.toNat, by omega, i_of h⟩
theorem t_nI {n : Nat} (h : n < 2147483648) : (nI n).toInt = (n : Int) := nI_toInt h
theorem t_0 : (0 : Int32).toInt = 0 := by decide +kernel
theorem t_1 : (1 : Int32).toInt = 1 := by decide +kernel
theorem t_m1 : (-1 : Int32).toInt = -1 := by decide +kernel
theorem t_m2 : (-2 : Int32).toInt = -2 := by decide +kernel
theorem l_0 : (0 : Int32) = nI 0 := by decide +kernel
theorem l_1 : (1 : Int32) = nI 1 := by decide +kernel
theorem l_31 : (31 : Int32) = nI 31 := by decide +kernel
/-- a shape holds: its branch -/
theorem pos {α : Type} {c : Prop} [Decidable c] {a b x : α} (h : c) (e : a = x) : (if c then a else b) = x := (if_pos h).trans e
theorem neg {α : Type} {c : Prop} [Decidable c] {a b x : α} (h : ¬ c) (e : b = x) : (if c then a else b) = x := (if_neg h).trans e
/-! sets of bits and counts -/
def bs (P : Nat → Bool) : Nat → Nat
  | 0 => 0
  | n + 1 => bs P n + (if P n = true then 2 ^ n else 0)
def cn (P : Nat → Bool) : Nat → Nat
  | 0 => 0
  | n + 1 => cn P n + (if P n = true then 1 else 0)
theorem bs_lt (P : Nat → Bool) : ∀ n, bs P n < 2 ^ n
  | 0 => Nat.zero_lt_one
  | n + 1 => by
    have := bs_lt P n
    unfold bs
    rw [Nat.pow_succ]
    split <;> omega
theorem bs_le (P : Nat → Bool) {n m : Nat} (h : n ≤ m) : bs P n < 2 ^ m := Nat.lt_of_lt_of_le (bs_lt P n) (Nat.pow_le_pow_right (by omega) h)
theorem bs_128 (P : Nat → Bool) {n : Nat} (h : n ≤ 7) : bs P n < 128 := bs_le P h
theorem bs_cong {P Q : Nat → Bool} : ∀ {n : Nat}, (∀ k, k < n → P k = Q k) → bs P n = bs Q n
  | 0, _ => rfl
  | n + 1, h => by
    unfold bs
    rw [bs_cong (n := n) (fun k hk => h k (by omega)), h n (by omega)]
theorem cn_cong {P Q : Nat → Bool} : ∀ {n : Nat}, (∀ k, k < n → P k = Q k) → cn P n = cn Q n
  | 0, _ => rfl
  | n + 1, h => by
    unfold cn
    rw [cn_cong (n := n) (fun k hk => h k (by omega)), h n (by omega)]
theorem cn_le (P : Nat → Bool) : ∀ n, cn P n ≤ n
  | 0 => Nat.le_refl _
  | n + 1 => by
    have := cn_le P n
    unfold cn
    split <;> omega
theorem bs_bit {P : Nat → Bool} : ∀ {n k : Nat}, k < n → bs P n / 2 ^ k % 2 = if P k = true then 1 else 0
  | n + 1, k, h => by
    have hb := bs_lt P n
    unfold bs
    by_cases hk : k < n
    · rw [← bs_bit (P := P) hk]
      obtain ⟨m, rfl⟩ : ∃ m, n = k + 1 + m := ⟨n - (k + 1), by omega⟩
      split
      · have e : 2 ^ (k + 1 + m) = 2 ^ k * (2 * 2 ^ m) := by rw [Nat.pow_add, Nat.pow_succ]; rw [Nat.mul_assoc]
        rw [e, Nat.add_mul_div_left _ _ (Nat.two_pow_pos k), Nat.add_mul_mod_self_left]
      · rfl
    · have : k = n := by omega
      subst this
      split
      · rw [Nat.add_div_right _ (Nat.two_pow_pos k), Nat.div_eq_of_lt hb]
      · rw [Nat.add_zero, Nat.div_eq_of_lt hb]
theorem bs_out {P : Nat → Bool} {n k : Nat} (h : n ≤ k) : bs P n / 2 ^ k % 2 = 0 := by
  rw [Nat.div_eq_of_lt (bs_le P h)]
theorem or_bit : ∀ n, n < 8 → ∀ b, b < 256 → b < 2 ^ n → nI b ||| (nI 1 <<< (nI n &&& nI 31)) = nI (b + 2 ^ n) := by decide +kernel
theorem bs_or {P : Nat → Bool} {n : Nat} (hn : n < 8) (h : P n = true) : nI (bs P n) ||| (nI 1 <<< (nI n &&& nI 31)) = nI (bs P (n + 1)) := by
  have h1 := bs_lt P n
  have h2 : 2 ^ n ≤ 2 ^ 8 := Nat.pow_le_pow_right (by omega) (by omega)
  rw [or_bit n hn _ (by omega) h1]
  show _ = nI (bs P n + (if P n = true then 2 ^ n else 0))
  rw [if_pos h]
theorem bs_no {P : Nat → Bool} {n : Nat} (h : ¬ P n = true) : nI (bs P n) = nI (bs P (n + 1)) := by
  show _ = nI (bs P n + (if P n = true then 2 ^ n else 0))
  rw [if_neg h]
  rfl
theorem shr_bit : ∀ k, k < 8 → ∀ b, b < 256 → (nI b >>> (nI k &&& nI 31)) &&& nI 1 = nI (b / 2 ^ k % 2) := by decide +kernel
theorem bs_shr {P : Nat → Bool} {n k : Nat} (hn : n ≤ 8) (hk : k < n) : (nI (bs P n) >>> (nI k &&& nI 31)) &&& nI 1 = if P k = true then nI 1 else nI 0 := by
  have h1 := bs_le P hn
  rw [shr_bit k (by omega) _ h1, bs_bit hk]
  split <;> rfl
theorem bs_shr0 {P : Nat → Bool} {n k : Nat} (hn : n ≤ 8) (hk : k < 8) (h : n ≤ k) : (nI (bs P n) >>> (nI k &&& nI 31)) &&& nI 1 = nI 0 := by
  have h1 := bs_le P hn
  rw [shr_bit k hk _ h1, bs_out h]
/-- how many bits of the first n are in b -/
def pc (b : Nat) : Nat → Nat
  | 0 => 0
  | n + 1 => pc b n + b / 2 ^ n % 2
theorem pc_bs {P : Nat → Bool} {n : Nat} : ∀ {m : Nat}, m ≤ n → pc (bs P n) m = cn P m
  | 0, _ => rfl
  | m + 1, h => by
    unfold pc cn
    rw [pc_bs (m := m) (by omega), bs_bit (by omega)]
theorem pc_up {P : Nat → Bool} {n : Nat} : ∀ {k : Nat}, pc (bs P n) (n + k) = cn P n
  | 0 => pc_bs (Nat.le_refl n)
  | k + 1 => by
    show pc (bs P n) (n + k) + bs P n / 2 ^ (n + k) % 2 = _
    rw [pc_up, bs_out (by omega), Nat.add_zero]
theorem pc_cn {P : Nat → Bool} {n m : Nat} (h : n ≤ m) : pc (bs P n) m = cn P n := by
  obtain ⟨k, rfl⟩ : ∃ k, m = n + k := ⟨m - n, by omega⟩
  exact pc_up
theorem pc_le (b : Nat) : ∀ n, pc b n ≤ n
  | 0 => Nat.le_refl _
  | n + 1 => by
    have := pc_le b n
    unfold pc
    omega
/-- held within -/
def hld (v lo hi : Int32) : Int32 := if v < lo then lo else if hi < v then hi else v
theorem hld_in {v lo hi : Int32} (h : lo ≤ hi) : lo ≤ hld v lo hi ∧ hld v lo hi ≤ hi := by
  unfold hld
  rw [i_le] at h
  split
  · rename_i q
    rw [i_le, i_le]
    omega
  · rename_i q
    rw [i_lt] at q
    split
    · rw [i_le, i_le]; omega
    · rename_i q2
      rw [i_lt] at q2
      rw [i_le, i_le]; omega
