/-! the memory as three: S what is made (no method but the constructors makes anything), I the ints, L the longs -/
abbrev mS : Type := Nat × Nat × (Nat → Nat) × (Nat → Nat) × (Nat → Nat → Nat)
abbrev mI : Type := Nat → Nat → Int32
abbrev mJ : Type := Nat → Nat → Int64
def kK (S : mS) (r : Nat) : Nat := if r < 7 then (if r = 2 then 30 else if r = 3 then 30 else if r = 4 then 31 else if r = 5 then 31 else 99) else if r < S.1 + 7 then S.2.2.1 r else 99
def kN (S : mS) (r : Nat) : Nat := S.2.2.2.1 r
def kR (S : mS) (r j : Nat) : Nat := S.2.2.2.2 r j
def uI (I : mI) (r j : Nat) (x : Int32) : mI := fun a b => if a = r ∧ b = j then x else I a b
def uL (I : mJ) (r j : Nat) (x : Int64) : mJ := fun a b => if a = r ∧ b = j then x else I a b
def cpI (I : mI) (src sp dst dp n : Nat) : mI := fun a b => if a = dst ∧ dp ≤ b ∧ b < dp + n then I src (sp + (b - dp)) else I a b
abbrev zrem (x y : Int32) : Int32 := x - x / y * y
theorem bI_eq {x : Int32} {M : zM} {f : Int32 → zM → Option zR} : bI (some (some (.int x), M)) f = f x M := rfl
theorem bL_eq {x : Int64} {M : zM} {f : Int64 → zM → Option zR} : bL (some (some (.long x), M)) f = f x M := rfl
theorem bV_eq {M : zM} {f : zM → Option zR} : bV (some (none, M)) f = f M := rfl
theorem zix_nI {n : Nat} (h : n < 2 ^ 31) : zix (nI n) = n := nI_clamp h
theorem zin_nI {n N : Nat} (h : n < 2 ^ 31) : zin (nI n) N ↔ n < N := by
  unfold zin
  rw [nI_toInt h]
  omega
theorem uI_at (I : mI) (r j : Nat) (x : Int32) (a b : Nat) : uI I r j x a b = if a = r ∧ b = j then x else I a b := rfl
theorem uI_same (I : mI) (r j : Nat) (x : Int32) : uI I r j x r j = x := if_pos ⟨rfl, rfl⟩
theorem uI_off {I : mI} {r j : Nat} {x : Int32} {a b : Nat} (h : a ≠ r) : uI I r j x a b = I a b := if_neg fun q => h q.1
theorem uI_ix {I : mI} {r j : Nat} {x : Int32} {a b : Nat} (h : b ≠ j) : uI I r j x a b = I a b := if_neg fun q => h q.2
theorem uL_at (I : mJ) (r j : Nat) (x : Int64) (a b : Nat) : uL I r j x a b = if a = r ∧ b = j then x else I a b := rfl
theorem uL_off {I : mJ} {r j : Nat} {x : Int64} {a b : Nat} (h : a ≠ r) : uL I r j x a b = I a b := if_neg fun q => h q.1
theorem cpI_at (I : mI) (src sp dst dp n a b : Nat) : cpI I src sp dst dp n a b = if a = dst ∧ dp ≤ b ∧ b < dp + n then I src (sp + (b - dp)) else I a b := rfl
theorem cpI_off {I : mI} {src sp dst dp n a b : Nat} (h : a ≠ dst) : cpI I src sp dst dp n a b = I a b := if_neg fun q => h q.1
/-- J is I but at the places of A -/
def Fi (A : Nat → Nat → Prop) (I J : mI) : Prop := ∀ a j, ¬ A a j → J a j = I a j
theorem Fi.rf {A : Nat → Nat → Prop} {I : mI} : Fi A I I := fun _ _ _ => rfl
theorem Fi.tr {A : Nat → Nat → Prop} {I J K : mI} (h : Fi A I J) (h2 : Fi A J K) : Fi A I K := fun a j ha => (h2 a j ha).trans (h a j ha)
theorem Fi.up {A B : Nat → Nat → Prop} {I J : mI} (h : Fi A I J) (q : ∀ a j, A a j → B a j) : Fi B I J := fun a j ha => h a j fun z => ha (q a j z)
theorem Fi.u {A : Nat → Nat → Prop} {I J : mI} {r k : Nat} {x : Int32} (h : Fi A I J) (q : A r k) : Fi A I (uI J r k x) := fun a j ha => by
  rw [← h a j ha, uI_at]
  exact if_neg (fun (z : a = r ∧ j = k) => ha (by rw [z.1, z.2]; exact q))
theorem Fi.c {A : Nat → Nat → Prop} {I J : mI} {src sp dst dp n : Nat} (h : Fi A I J) (q : ∀ j, A dst j) : Fi A I (cpI J src sp dst dp n) := fun a j ha => by
  rw [← h a j ha, cpI_at]
  exact if_neg (fun (z : a = dst ∧ dp ≤ j ∧ j < dp + n) => ha (by rw [z.1]; exact q j))
theorem Fi.row {A : Nat → Nat → Prop} {I J : mI} (h : Fi A I J) (a : Nat) (q : ∀ j, ¬ A a j) : J a = I a := funext fun j => h a j (q j)
def uR (S : mS) (r j x : Nat) : mS := (S.1, S.2.1, S.2.2.1, S.2.2.2.1, fun a b => if a = r ∧ b = j then x else S.2.2.2.2 a b)
