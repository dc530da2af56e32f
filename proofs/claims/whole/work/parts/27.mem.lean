/-! the memory as three: S what is made (no method but the constructors makes anything), I the ints, L the longs -/
abbrev zS : Type := Nat × Nat × (Nat → Nat) × (Nat → Nat) × (Nat → Nat → Nat)
abbrev zI : Type := Nat → Nat → Int32
abbrev zJ : Type := Nat → Nat → Int64
def kK (S : zS) (r : Nat) : Nat := if r < 7 then (if r = 2 then 30 else if r = 3 then 30 else if r = 4 then 31 else if r = 5 then 31 else 99) else if r < S.1 + 7 then S.2.2.1 r else 99
def kN (S : zS) (r : Nat) : Nat := S.2.2.2.1 r
def kR (S : zS) (r j : Nat) : Nat := S.2.2.2.2 r j
def uI (I : zI) (r j : Nat) (x : Int32) : zI := fun a b => if a = r ∧ b = j then x else I a b
def uL (I : zJ) (r j : Nat) (x : Int64) : zJ := fun a b => if a = r ∧ b = j then x else I a b
def cpI (I : zI) (src sp dst dp n : Nat) : zI := fun a b => if a = dst ∧ dp ≤ b ∧ b < dp + n then I src (sp + (b - dp)) else I a b
abbrev zrem (x y : Int32) : Int32 := x - x / y * y
theorem bI_eq {x : Int32} {M : zM} {f : Int32 → zM → Option zR} : bI (some (some (.int x), M)) f = f x M := rfl
theorem bL_eq {x : Int64} {M : zM} {f : Int64 → zM → Option zR} : bL (some (some (.long x), M)) f = f x M := rfl
theorem bV_eq {M : zM} {f : zM → Option zR} : bV (some (none, M)) f = f M := rfl
theorem zix_nI {n : Nat} (h : n < 2 ^ 31) : zix (nI n) = n := nI_clamp h
theorem zin_nI {n N : Nat} (h : n < 2 ^ 31) : zin (nI n) N ↔ n < N := by
  unfold zin
  rw [nI_toInt h]
  omega
theorem uI_at (I : zI) (r j : Nat) (x : Int32) (a b : Nat) : uI I r j x a b = if a = r ∧ b = j then x else I a b := rfl
theorem uI_same (I : zI) (r j : Nat) (x : Int32) : uI I r j x r j = x := if_pos ⟨rfl, rfl⟩
theorem uI_off {I : zI} {r j : Nat} {x : Int32} {a b : Nat} (h : a ≠ r) : uI I r j x a b = I a b := if_neg fun q => h q.1
theorem uI_ix {I : zI} {r j : Nat} {x : Int32} {a b : Nat} (h : b ≠ j) : uI I r j x a b = I a b := if_neg fun q => h q.2
theorem uL_at (I : zJ) (r j : Nat) (x : Int64) (a b : Nat) : uL I r j x a b = if a = r ∧ b = j then x else I a b := rfl
theorem uL_off {I : zJ} {r j : Nat} {x : Int64} {a b : Nat} (h : a ≠ r) : uL I r j x a b = I a b := if_neg fun q => h q.1
theorem cpI_at (I : zI) (src sp dst dp n a b : Nat) : cpI I src sp dst dp n a b = if a = dst ∧ dp ≤ b ∧ b < dp + n then I src (sp + (b - dp)) else I a b := rfl
theorem cpI_off {I : zI} {src sp dst dp n a b : Nat} (h : a ≠ dst) : cpI I src sp dst dp n a b = I a b := if_neg fun q => h q.1
/-- J is I but at the cells of A -/
def Fi (A : Nat → Prop) (I J : zI) : Prop := ∀ a, ¬ A a → J a = I a
theorem Fi.rf {A : Nat → Prop} {I : zI} : Fi A I I := fun _ _ => rfl
theorem Fi.tr {A : Nat → Prop} {I J K : zI} (h : Fi A I J) (h2 : Fi A J K) : Fi A I K := fun a ha => (h2 a ha).trans (h a ha)
theorem Fi.up {A B : Nat → Prop} {I J : zI} (h : Fi A I J) (q : ∀ a, A a → B a) : Fi B I J := fun a ha => h a fun z => ha (q a z)
theorem Fi.u {A : Nat → Prop} {I J : zI} {r j : Nat} {x : Int32} (h : Fi A I J) (q : A r) : Fi A I (uI J r j x) := fun a ha => by
  rw [← h a ha]
  funext b
  exact uI_off fun z => ha (z ▸ q)
theorem Fi.c {A : Nat → Prop} {I J : zI} {src sp dst dp n : Nat} (h : Fi A I J) (q : A dst) : Fi A I (cpI J src sp dst dp n) := fun a ha => by
  rw [← h a ha]
  funext b
  exact cpI_off fun z => ha (z ▸ q)
