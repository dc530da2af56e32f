/-! the meaning of an hour -/
def stir (h v : Int32) : Int32 := (((h ^^^ v) * (nI 1103515245)) + (nI 12345)) ^^^ ((((h ^^^ v) * (nI 1103515245)) + (nI 12345)).toUInt32 >>> ((nI 15).toUInt32 &&& 31)).toInt32
def gustS (P : mP) (sd hour : Int32) : Bool := decide (zrem (((stir (stir sd (nI 113)) ((nI 4) * hour)).toUInt32 >>> ((nI 1).toUInt32 &&& 31)).toInt32) (nI 100) < sta P 1)
def upS (P : mP) (r : mW) : Int32 := nI (soN P r (nI 1))
def stS (P : mP) (r : mW) : Int32 := nI (soN P r (nI 2))
def kS (r : mW) (a : Nat) : Nat := (r (21 + a)).toInt.toNat
def hiT (P : mP) (r : mW) (a : Nat) : Int32 := r (14 + a) + lawL P (r 55) (upS P r) (stS P r) (sta P (30 + kS r a)) (sta P (10 + a)) (r (14 + a)) (r a)
def wiT (P : mP) (r : mW) (a : Nat) : Int32 := lawW P (r 55) (upS P r) (stS P r) (r (14 + a)) (r a)
def moT (g : Bool) (w : Int32) : Int32 := if g = true then (if nI 0 < w then nI 1 else if w < nI 0 then -1 else nI 0) else nI 0
def xT (P : mP) (r : mW) (g : Bool) (a : Nat) : Int32 := hld (r a + (r (40 + kS r a) + wiT P r a + moT g (wiT P r a))) (nI 0) (nI 19)
def paT (P : mP) (r : mW) (a : Nat) : Int32 := lawP P (r 55) (upS P r) (stS P r) (sta P (20 + a)) (sta P (10 + a))
/-- a load is down, its silk too -/
def downR (r : mW) (a : Nat) (how : Int32) : mW := ur (ur (ur (ur r (35 + kS r a) (-2)) (7 + a) how) (14 + a) (nI 0)) (21 + a) (-2)
def freeC (P : mP) (c : Nat → Int32) (h : Nat) : Bool := decide (c h < sta P (50 + h))
def updC (c : Nat → Int32) (h : Nat) (v : Int32) : Nat → Int32 := fun j => if j = h then v else c j
/-- all loads in the air go up and aside -/
def drX (P : mP) (h u st : Int32) (g : Bool) (i k : Nat) (r : mW) : mW :=
  ur (ur r (14 + i) (r (14 + i) + lawL P h u st (sta P (30 + k)) (sta P (10 + i)) (r (14 + i)) (r i))) i (hld (r i + (r (40 + k) + lawW P h u st (r (14 + i)) (r i) + moT g (lawW P h u st (r (14 + i)) (r i)))) (nI 0) (nI 19))
def drf (P : mP) (r0 : mW) (g : Bool) : Nat → mW
  | 0 => r0
  | n + 1 => if r0 (7 + n) = nI 1 then drX P (r0 55) (upS P r0) (stS P r0) g n (kS r0 n) (drf P r0 g n) else drf P r0 g n
/-- one load comes to its end, or not: r0 as the hour began, the row and the hands as they are now -/
def stepC (P : mP) (r0 : mW) (a : Nat) (q : mW × (Nat → Int32)) : mW × (Nat → Int32) :=
  if r0 (7 + a) = nI 1 then
    if sta P 0 ≤ q.1 (14 + a) then
      (if nhA P q.1 (q.1 a) (freeC P q.2) < nI 0 then (downR q.1 a (nI 3), q.2)
       else (ur (ur (downR q.1 a (nI 2)) (28 + a) (nhA P q.1 (q.1 a) (freeC P q.2))) 56 (q.1 56 + paT P r0 a), updC q.2 (nhA P q.1 (q.1 a) (freeC P q.2)).toInt.toNat (q.2 (nhA P q.1 (q.1 a) (freeC P q.2)).toInt.toNat + nI 1)))
    else if q.1 (14 + a) ≤ nI 0 then (downR q.1 a (nI 0), q.2) else q
  else q
def foldC (P : mP) (r0 : mW) (g : Bool) : Nat → mW × (Nat → Int32)
  | 0 => (drf P r0 g (nLo P), fun _ => nI 0)
  | n + 1 => stepC P r0 n (foldC P r0 g n)
def hourS (P : mP) (sd : Int32) (r : mW) : mW := ur (foldC P r (gustS P sd (r 55)) (nLo P)).1 55 ((foldC P r (gustS P sd (r 55)) (nLo P)).1 55 + nI 1)
def goesS (P : mP) (sd : Int32) : Nat → mW → mW
  | 0, r => r
  | n + 1, r => goesS P sd n (hourS P sd r)
/-- nothing in the air: the time alone goes on -/
theorem drf_no {P : mP} {r : mW} {g : Bool} (h : ∀ a, a < nLo P → ¬ r (7 + a) = nI 1) : ∀ n, n ≤ nLo P → drf P r g n = r
  | 0, _ => rfl
  | n + 1, hn => by
    unfold drf
    rw [if_neg (h n (by omega))]
    exact drf_no h n (by omega)
theorem foldC_no {P : mP} {r : mW} {g : Bool} (h : ∀ a, a < nLo P → ¬ r (7 + a) = nI 1) : ∀ n, n ≤ nLo P → (foldC P r g n).1 = r
  | 0, _ => drf_no h _ (Nat.le_refl _)
  | n + 1, hn => by
    unfold foldC stepC
    rw [if_neg (h n (by omega))]
    exact foldC_no h n (by omega)
theorem cn_0 {P : Nat → Bool} : ∀ {n : Nat}, cn P n = 0 → ∀ k, k < n → P k = false
  | n + 1, h, k, hk => by
    unfold cn at h
    by_cases e : P n = true
    · rw [if_pos e] at h; omega
    · rw [if_neg e] at h
      by_cases ek : k = n
      · subst ek; simpa using e
      · exact cn_0 (n := n) (by omega) k (by omega)
theorem hour_no {P : mP} {sd : Int32} {r : mW} (h : soN P r (nI 1) = 0) : hourS P sd r = ur r 55 (r 55 + nI 1) := by
  have : ∀ a, a < nLo P → ¬ r (7 + a) = nI 1 := fun a ha => of_decide_eq_false (cn_0 h a ha)
  unfold hourS
  rw [foldC_no this _ (Nat.le_refl _)]
theorem ur_ur {r : mW} {k : Nat} {v w : Int32} : ur (ur r k v) k w = ur r k w := by
  funext j
  unfold ur
  split <;> rfl
theorem soN_55 {P : mP} {r : mW} {v s : Int32} (hv : PV P) : soN P (ur r 55 v) s = soN P r s := cn_cong fun a ha => by
  have := hv.1
  unfold isS
  rw [ur_n (by omega)]
theorem goes_no {P : mP} {sd : Int32} (hv : PV P) : ∀ (n : Nat) (r : mW), soN P r (nI 1) = 0 → goesS P sd n r = ur r 55 (r 55 + nI n)
  | 0, r, _ => by
    funext j
    unfold ur
    split
    · rename_i e
      rw [e]
      show r 55 = r 55 + 0
      simp
    · rfl
  | n + 1, r, h => by
    unfold goesS
    rw [hour_no h, goes_no hv n _ (by rw [soN_55 hv]; exact h), ur_ur, ur_s, Int32.add_assoc, nI_add, Nat.add_comm 1 n]
