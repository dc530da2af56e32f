/-! THE MEANING: a plan P (how many of each, what is told of each, the laws), a row r of 58 ints (what goes on), as the reference lays it -/
abbrev mP : Type := (Nat × Nat × Nat) × (Nat → Int32) × (Nat → (Nat → Int32) → Int32)
abbrev mW : Type := Nat → Int32
def nLo (P : mP) : Nat := P.1.1
def nSi (P : mP) : Nat := P.1.2.1
def nHo (P : mP) : Nat := P.1.2.2
/-- 0 rim, 1 gusts, 2 seed; weights from 10, prices from 20, sizes from 30, reaches from 40, hands from 50 -/
def sta (P : mP) (k : Nat) : Int32 := P.2.1 k
def lawf (P : mP) (k : Nat) (v : Nat → Int32) : Int32 := P.2.2 k v
def PV (P : mP) : Prop := nLo P ≤ 7 ∧ nSi P ≤ 5 ∧ nHo P ≤ 5 ∧ (∀ h, h < nHo P → 0 ≤ (sta P (40 + h)).toInt ∧ (sta P (40 + h)).toInt ≤ 5 ∧ 1 ≤ (sta P (50 + h)).toInt ∧ (sta P (50 + h)).toInt ≤ 9)
def RV (P : mP) (r : mW) : Prop :=
  (∀ a, a < nLo P → (0 ≤ (r a).toInt ∧ (r a).toInt ≤ 19) ∧ (r (7 + a) = nI 0 ∨ r (7 + a) = nI 1 ∨ r (7 + a) = nI 2 ∨ r (7 + a) = nI 3) ∧ (r (7 + a) = nI 1 → ∃ k, k < nSi P ∧ r (21 + a) = nI k ∧ r (35 + k) = nI a) ∧ (¬ r (7 + a) = nI 1 → r (21 + a) = -2 ∧ r (14 + a) = nI 0) ∧ (r (28 + a) = -2 ∨ ∃ h, h < nHo P ∧ r (28 + a) = nI h) ∧ (¬ r (7 + a) = nI 2 → r (28 + a) = -2)) ∧
  (∀ k, k < nSi P → (-3 ≤ (r (40 + k)).toInt ∧ (r (40 + k)).toInt ≤ 3) ∧ (r (35 + k) = -2 ∨ ∃ a, a < nLo P ∧ r (35 + k) = nI a ∧ r (7 + a) = nI 1 ∧ r (21 + a) = nI k)) ∧
  (∀ h, h < nHo P → 0 ≤ (r (50 + h)).toInt ∧ (r (50 + h)).toInt ≤ 19)
/-- rows alike as far as they go -/
def E58 (r r' : mW) : Prop := ∀ k, k < 58 → r k = r' k
def isS (r : mW) (s : Int32) (a : Nat) : Bool := decide (r (7 + a) = s)
def soB (P : mP) (r : mW) (s : Int32) : Nat := bs (isS r s) (nLo P)
def soN (P : mP) (r : mW) (s : Int32) : Nat := cn (isS r s) (nLo P)
def cauB (P : mP) (r : mW) (h : Nat) : Nat := bs (fun a => decide (r (28 + a) = nI h)) (nLo P)
/-- the State at a holds the row r under the plan P -/
def CS (I : mI) (a : Nat) (P : mP) (r : mW) : Prop :=
  (I (a + 1) 0 = nI 7 ∧ I (a + 1) 1 = nI 7 ∧ I (a + 1) 3 = nI (nLo P)) ∧ (I (a + 3) 0 = nI 5 ∧ I (a + 3) 1 = nI 4 ∧ I (a + 3) 3 = nI (nSi P)) ∧ (I (a + 5) 0 = nI 5 ∧ I (a + 5) 1 = nI 4 ∧ I (a + 5) 3 = nI (nHo P)) ∧
  (∀ i, i < nLo P → I (a + 2) (i * 7 + 0) = r i ∧ I (a + 2) (i * 7 + 1) = sta P (10 + i) ∧ I (a + 2) (i * 7 + 2) = sta P (20 + i) ∧ I (a + 2) (i * 7 + 3) = r (7 + i) ∧ I (a + 2) (i * 7 + 4) = r (14 + i) ∧ I (a + 2) (i * 7 + 5) = r (21 + i) ∧ I (a + 2) (i * 7 + 6) = r (28 + i)) ∧
  (∀ k, k < nSi P → I (a + 4) (k * 4 + 0) = sta P (30 + k) ∧ I (a + 4) (k * 4 + 1) = r (35 + k) ∧ I (a + 4) (k * 4 + 2) = r (45 + k) ∧ I (a + 4) (k * 4 + 3) = r (40 + k)) ∧
  (∀ h, h < nHo P → I (a + 6) (h * 4 + 0) = r (50 + h) ∧ I (a + 6) (h * 4 + 1) = sta P (40 + h) ∧ I (a + 6) (h * 4 + 2) = sta P (50 + h) ∧ I (a + 6) (h * 4 + 3) = nI (cauB P r h)) ∧
  I a 3 = r 55 ∧ I a 4 = r 56 ∧ I a 5 = r 57
/-! hooks -/
def hoff (a b : Int32) : Int32 := if a < b then b - a else a - b
def nh (P : mP) (r : mW) (x : Int32) (fr : Nat → Bool) : Nat → Int32
  | 0 => -2
  | h + 1 => if sta P (40 + h) < hoff (r (50 + h)) x ∨ fr h = false then nh P r x fr h else if nh P r x fr h < 0 ∨ hoff (r (50 + h)) x < hoff (r (50 + (nh P r x fr h).toInt.toNat)) x then nI h else nh P r x fr h
theorem nh_or (P : mP) (r : mW) (x : Int32) (fr : Nat → Bool) : ∀ n, nh P r x fr n = -2 ∨ ∃ k, k < n ∧ nh P r x fr n = nI k
  | 0 => Or.inl rfl
  | n + 1 => by
    have ih := nh_or P r x fr n
    unfold nh
    split
    · rcases ih with h | ⟨k, h1, h2⟩
      · exact Or.inl h
      · exact Or.inr ⟨k, by omega, h2⟩
    · split
      · exact Or.inr ⟨n, by omega, rfl⟩
      · rcases ih with h | ⟨k, h1, h2⟩
        · exact Or.inl h
        · exact Or.inr ⟨k, by omega, h2⟩
def nhA (P : mP) (r : mW) (x : Int32) (fr : Nat → Bool) : Int32 := nh P r x fr (nHo P)
/-! laws -/
def n9 (v : Nat → Int32) : Nat → Int32 := fun k => if k < 9 then v k else 0
def vv (hour up st sz w hi ac pr : Int32) : Nat → Int32
  | 0 => zrem hour (nI 24)
  | 1 => hour / nI 24
  | 2 => sz
  | 3 => w
  | 4 => hi
  | 5 => ac
  | 6 => pr
  | 7 => up
  | 8 => st
  | _ => 0
theorem n9_vv {f : Nat → Int32} {hour up st sz w hi ac pr : Int32} (h : ∀ k, k < 9 → f k = vv hour up st sz w hi ac pr k) : n9 f = vv hour up st sz w hi ac pr := by
  funext k
  unfold n9
  split
  · exact h k ‹_›
  · match k with
    | n + 9 => rfl
    | 0 | 1 | 2 | 3 | 4 | 5 | 6 | 7 | 8 => omega
def lawL (P : mP) (hour up st sz w hi ac : Int32) : Int32 := hld (lawf P 0 (vv hour up st sz w hi ac 0)) (-9) 9
def lawW (P : mP) (hour up st hi ac : Int32) : Int32 := hld (lawf P 1 (vv hour up st 0 0 hi ac 0)) (-3) 3
def lawT (P : mP) (hour up st sz w : Int32) : Int32 := hld (lawf P 2 (vv hour up st sz w 0 0 0)) 0 99
def lawP (P : mP) (hour up st pr w : Int32) : Int32 := hld (lawf P 3 (vv hour up st 0 w 0 0 pr)) 0 99
/-- what the class' own machine answers of a law (the parser's matter) -/
def LawC (S : mS) (P : mP) (I : mI) : Prop := ∀ k, k < 4 → ∀ (J : mI) (d : Nat) (L : mJ), J 17 = I 17 → J 18 = I 18 → J 19 = I 19 → ∃ J', evM zcod (d + 2) 75 [.ref 53, .int (nI k)] (S, J, L) = some (some (.int (lawf P k (n9 (J 54)))), (S, J', L)) ∧ Fi (fun a _ => a = 55) J J'
def dfl (k : Nat) (v : Nat → Int32) : Int32 := match k with
  | 0 => v 2 - v 3
  | 1 => 0
  | 2 => v 3
  | _ => v 6
def LawM (S : mS) (P : mP) (I : mI) : Prop := ∀ k, k < 4 → ∀ (J : mI) (d : Nat) (L : mJ), J 384 18 = I 384 18 → (∀ a, 407 ≤ a → a ≤ 415 → J a = I a) → ∃ J', evM zcod (d + 2) 206 [.ref 384, .int (nI k), .int (dfl k (J 417))] (S, J, L) = some (some (.int (lawf P k (n9 (J 417)))), (S, J', L)) ∧ Fi (fun a j => a = 418 ∨ a = 384 ∧ j = 51) J J'
