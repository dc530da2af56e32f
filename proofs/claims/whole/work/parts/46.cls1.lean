/-! what the class answers, first group: things looked at, flights asked -/
def okI (x : Int32) (lo hi : Int32) : Bool := decide (lo ≤ x ∧ x ≤ hi)
theorem w_in {S : mS} {I : mI} {L : mJ} (d : Nat) (x lo hi : Int32) : evM zcod (d + 1) 145 [.int x, .int lo, .int hi] (S, I, L) = some (some (.int (if okI x lo hi = true then nI 1 else nI 0)), (S, I, L)) := by
  rw [s_isWithin]
  unfold okI
  simp only [decide_eq_true_eq]
theorem okI_n {x : Int32} {n : Nat} (h : okI x (nI 0) (nI n) = true) (hn : n < 2147483647) : ∃ k, k ≤ n ∧ x = nI k := by
  unfold okI at h
  have h := of_decide_eq_true h
  rw [i_le, i_le, t_nI (by omega), t_nI (by omega)] at h
  obtain ⟨k, hk, e⟩ := i_of2 (n := n + 1) (by omega : 0 ≤ x.toInt) (by omega)
  exact ⟨k, by omega, e⟩
theorem okI_nI {k n : Nat} (h : k ≤ n) (hn : n < 2147483647) : okI (nI k) (nI 0) (nI n) = true := by
  unfold okI
  refine decide_eq_true ?_
  rw [i_le, i_le, t_nI (by omega), t_nI (by omega), t_nI (by omega)]
  omega
theorem g7 {S : mS} (G : Gd S) : kK S 7 = 11 ∧ kR S 7 0 = 8 ∧ kR S 7 3 = 9 ∧ kR S 7 4 = 20 ∧ kR S 7 5 = 31 ∧ kR S 7 6 = 39 ∧ kR S 7 7 = 46 ∧ kR S 7 8 = 53 ∧ kR S 7 9 = 56 ∧ kR S 7 10 = 58 ∧ kR S 7 11 = 59 ∧ kR S 7 12 = 78 ∧ kR S 7 13 = 382 ∧ kK S 9 = 5 ∧ kK S 20 = 5 ∧ kK S 31 = 6 ∧ kK S 53 = 7 ∧ kK S 56 = 0 ∧ kK S 58 = 1 ∧ kK S 59 = 2 ∧ kK S 78 = 4 ∧ kK S 382 = 9 := by
  have a := gTop G
  have b := gSky G
  have c := gAir G
  have e := gCo G
  have f := gFi G
  have g := gPa G
  have h := gTold G
  have i := gRd G
  simp only [a, b, c, e, f, g, h, i, and_self]
def aLoad (P : mP) (r : mW) (i w : Int32) : Int32 := if inN i (nLo P) = true then (if w = nI 0 then r i.toInt.toNat else if w = nI 1 then sta P (10 + i.toInt.toNat) else if w = nI 2 then sta P (20 + i.toInt.toNat) else if w = nI 3 then r (7 + i.toInt.toNat) else if w = nI 4 then r (14 + i.toInt.toNat) else if w = nI 5 then r (21 + i.toInt.toNat) else if w = nI 6 then r (28 + i.toInt.toNat) else -1) else -1
def aSilk (P : mP) (r : mW) (i w : Int32) : Int32 := if inN i (nSi P) = true then (if w = nI 0 then sta P (30 + i.toInt.toNat) else if w = nI 1 then r (35 + i.toInt.toNat) else if w = nI 2 then r (45 + i.toInt.toNat) else -1) else -1
def aHook (P : mP) (r : mW) (i w : Int32) : Int32 := if inN i (nHo P) = true then (if w = nI 0 then r (50 + i.toInt.toNat) else if w = nI 1 then sta P (40 + i.toInt.toNat) else if w = nI 2 then sta P (50 + i.toInt.toNat) else if w = nI 3 then nI (cauB P r i.toInt.toNat) else -1) else -1
def aPull (P : mP) (r : mW) (i : Int32) : Int32 := if inN i (nSi P) = true then r (40 + i.toInt.toNat) else -100
theorem nE {a b : Nat} (h : (Nat.beq a b || Nat.ble 2147483648 a || Nat.ble 2147483648 b) = false) : (nI a = nI b) = False := eq_false fun q => by
  simp only [Bool.or_eq_false_iff] at h
  obtain ⟨⟨h1, h2⟩, h3⟩ := h
  have h2 : ¬ 2147483648 ≤ a := fun z => by rw [Nat.ble_eq_true_of_le z] at h2; cases h2
  have h3 : ¬ 2147483648 ≤ b := fun z => by rw [Nat.ble_eq_true_of_le z] at h3; cases h3
  have := (nI_eq (a := a) (b := b) (by omega) (by omega)).mp q
  rw [this] at h1
  simp at h1
theorem w_ne {w : Int32} {n k : Nat} (h : ¬ inN w n = true) (hk : k < n) (hn : n < 100) : ¬ w = nI k := fun q => h (by rw [q, inN_nI (by omega)]; exact decide_eq_true hk)
theorem c_load (d : Nat) {S : mS} {I : mI} {L : mJ} {P : mP} {r : mW} (G : Gd S) (hv : PV P) (h : CC S I P r) (i w : Int32) : evM zcod (d + 2) 117 [.ref 7, .int i, .int w] (S, I, L) = some (some (.int (aLoad P r i w)), (S, I, L)) := by
  have T := h.1.tl G is39 hv
  have v := hv.1
  rw [E_X11_load]
  simp only [B_X11_load_0, g7 G, gSt G is39, if_true, s_at _ T, bI_eq]
  congr 4
  unfold aLoad
  by_cases c : inN i (nLo P) = true
  · rw [if_pos c]
    obtain ⟨k, hk, rfl⟩ := inN_of c
    have q := h.1.lo hk
    rw [t_nI (by omega), Int.toNat_natCast]
    by_cases c2 : inN w 7 = true
    · obtain ⟨j, hj, rfl⟩ := inN_of c2
      rw [tat_in hk hj (by omega) (by omega)]
      match j, hj with
      | 0, _ => rw [if_pos rfl]; exact q.1
      | 1, _ => rw [if_neg (by decide +kernel), if_pos rfl]; exact q.2.1
      | 2, _ => rw [if_neg (by decide +kernel), if_neg (by decide +kernel), if_pos rfl]; exact q.2.2.1
      | 3, _ => rw [if_neg (by decide +kernel), if_neg (by decide +kernel), if_neg (by decide +kernel), if_pos rfl]; exact q.2.2.2.1
      | 4, _ => rw [if_neg (by decide +kernel), if_neg (by decide +kernel), if_neg (by decide +kernel), if_neg (by decide +kernel), if_pos rfl]; exact q.2.2.2.2.1
      | 5, _ => rw [if_neg (by decide +kernel), if_neg (by decide +kernel), if_neg (by decide +kernel), if_neg (by decide +kernel), if_neg (by decide +kernel), if_pos rfl]; exact q.2.2.2.2.2.1
      | 6, _ => rw [if_neg (by decide +kernel), if_neg (by decide +kernel), if_neg (by decide +kernel), if_neg (by decide +kernel), if_neg (by decide +kernel), if_neg (by decide +kernel), if_pos rfl]; exact q.2.2.2.2.2.2
      | n + 7, z => omega
    · rw [tat_out2 c2, if_neg (w_ne c2 (by omega) (by omega)), if_neg (w_ne c2 (by omega) (by omega)), if_neg (w_ne c2 (by omega) (by omega)), if_neg (w_ne c2 (by omega) (by omega)), if_neg (w_ne c2 (by omega) (by omega)), if_neg (w_ne c2 (by omega) (by omega)), if_neg (w_ne c2 (by omega) (by omega))]
  · rw [if_neg c, tat_out c]
theorem c_hook (d : Nat) {S : mS} {I : mI} {L : mJ} {P : mP} {r : mW} (G : Gd S) (hv : PV P) (h : CC S I P r) (i w : Int32) : evM zcod (d + 2) 120 [.ref 7, .int i, .int w] (S, I, L) = some (some (.int (aHook P r i w)), (S, I, L)) := by
  have T := h.1.th G is39 hv
  have v := hv.2.2.1
  rw [E_X11_hook]
  simp only [B_X11_hook_0, g7 G, gSt G is39, if_true, s_at _ T, bI_eq]
  congr 4
  unfold aHook
  by_cases c : inN i (nHo P) = true
  · rw [if_pos c]
    obtain ⟨k, hk, rfl⟩ := inN_of c
    have q := h.1.ho hk
    rw [t_nI (by omega), Int.toNat_natCast]
    by_cases c2 : inN w 4 = true
    · obtain ⟨j, hj, rfl⟩ := inN_of c2
      rw [tat_in hk hj (by omega) (by omega)]
      match j, hj with
      | 0, _ => rw [if_pos rfl]; exact q.1
      | 1, _ => rw [if_neg (by decide +kernel), if_pos rfl]; exact q.2.1
      | 2, _ => rw [if_neg (by decide +kernel), if_neg (by decide +kernel), if_pos rfl]; exact q.2.2.1
      | 3, _ => rw [if_neg (by decide +kernel), if_neg (by decide +kernel), if_neg (by decide +kernel), if_pos rfl]; exact q.2.2.2
      | n + 4, z => omega
    · rw [tat_out2 c2, if_neg (w_ne c2 (by omega) (by omega)), if_neg (w_ne c2 (by omega) (by omega)), if_neg (w_ne c2 (by omega) (by omega)), if_neg (w_ne c2 (by omega) (by omega))]
  · rw [if_neg c, tat_out c]
theorem c_silk (d : Nat) {S : mS} {I : mI} {L : mJ} {P : mP} {r : mW} (G : Gd S) (hv : PV P) (h : CC S I P r) (i w : Int32) : evM zcod (d + 2) 118 [.ref 7, .int i, .int w] (S, I, L) = some (some (.int (aSilk P r i w)), (S, I, L)) := by
  have T := h.1.ts G is39 hv
  have v := hv.2.1
  rw [E_X11_silk]
  simp only [B_X11_silk_0, B_X11_silk_9, B_X11_silk_21, g7 G, gSt G is39, if_true, s_at _ T, bI_eq]
  unfold aSilk
  by_cases c3 : w = nI 3
  · rw [if_neg (fun q => q c3), c3]
    simp only [nE (a := 3) (b := 0) rfl, nE (a := 3) (b := 1) rfl, nE (a := 3) (b := 2) rfl, if_false, ite_self]
  · rw [if_pos c3]
    congr 4
    by_cases c : inN i (nSi P) = true
    · rw [if_pos c]
      obtain ⟨k, hk, rfl⟩ := inN_of c
      have q := h.1.si hk
      rw [t_nI (by omega), Int.toNat_natCast]
      by_cases c2 : inN w 4 = true
      · obtain ⟨j, hj, rfl⟩ := inN_of c2
        rw [tat_in hk hj (by omega) (by omega)]
        match j, hj with
        | 0, _ => rw [if_pos rfl]; exact q.1
        | 1, _ => rw [if_neg (by decide +kernel), if_pos rfl]; exact q.2.1
        | 2, _ => rw [if_neg (by decide +kernel), if_neg (by decide +kernel), if_pos rfl]; exact q.2.2.1
        | 3, _ => exact absurd rfl c3
        | n + 4, z => omega
      · rw [tat_out2 c2, if_neg (w_ne c2 (by omega) (by omega)), if_neg (w_ne c2 (by omega) (by omega)), if_neg (w_ne c2 (by omega) (by omega))]
    · rw [if_neg c, tat_out c]
theorem c_pull (d : Nat) {S : mS} {I : mI} {L : mJ} {P : mP} {r : mW} (G : Gd S) (hv : PV P) (h : CC S I P r) (i : Int32) : evM zcod (d + 2) 119 [.ref 7, .int i] (S, I, L) = some (some (.int (aPull P r i)), (S, I, L)) := by
  have T := h.1.ts G is39 hv
  have v := hv.2.1
  rw [E_X11_pull]
  simp only [B_X11_pull_0, B_X11_pull_29, B_X11_pull_31, g7 G, gSt G is39, if_true, s_has _ T, bI_eq]
  unfold aPull
  by_cases c : inN i (nSi P) = true
  · simp only [if_pos c, n10, if_false]
    obtain ⟨k, hk, rfl⟩ := inN_of c
    simp only [s_atN _ T hk (show 3 < 4 by omega), bI_eq, if_true, (h.1.si hk).2.2.2, t_nI (show k < 2147483648 by omega), Int.toNat_natCast, B_X11_pull_0, B_X11_pull_29, B_X11_pull_31]
  · simp only [if_neg c, if_true]
def aNear (P : mP) (r : mW) (x : Int32) : Int32 := if okI x (nI 0) (nI 19) = true then nhA P r x allF else -1
theorem c_near (d : Nat) {S : mS} {I : mI} {L : mJ} {P : mP} {r : mW} (G : Gd S) (hv : PV P) (hr : RV P r) (h : CC S I P r) (x : Int32) : evM zcod (d + 3) 130 [.ref 7, .int x] (S, I, L) = some (some (.int (aNear P r x)), (S, I, L)) := by
  have v := hv.2.2.1
  rw [E_X11_near]
  simp only [B_X11_near_0, B_X11_near_22, B_X11_near_23, g7 G, gSt G is39, if_true, w_in, bI_eq]
  unfold aNear
  by_cases c : okI x (nI 0) (nI 19) = true
  · simp only [if_pos c, n10, if_false]
    obtain ⟨k, hk, rfl⟩ := okI_n c (by omega)
    have sn := s_nearest d (L := L) G is39 hv hr.2.2 h.1 (x := nI k) (by rw [t_nI (by omega)]; omega) (z := nI 0) (fr := allF) (fun k hk => z_free k (by omega))
    simp only [sn, bI_eq, if_true, B_X11_near_0, B_X11_near_22, B_X11_near_23]
  · simp only [if_neg c, if_true]
theorem c_isPair (d : Nat) {S : mS} {I : mI} {L : mJ} {P : mP} {r : mW} (G : Gd S) (hv : PV P) (h : CC S I P r) (i k : Int32) : evM zcod (d + 2) 148 [.ref 7, .int i, .int k] (S, I, L) = some (some (.int (if (inN i (nLo P) && inN k (nSi P)) = true then nI 1 else nI 0)), (S, I, L)) := by
  rw [E_X11_isPair]
  simp only [B_X11_isPair_0, B_X11_isPair_32, B_X11_isPair_33, g7 G, gSt G is39, if_true, s_has _ (h.1.tl G is39 hv), s_has _ (h.1.ts G is39 hv), bI_eq, b0, b1]
  cases inN i (nLo P) <;> cases inN k (nSi P) <;> simp [n10]
theorem rdy_in {P : mP} {r : mW} {i k : Int32} (h : rdy P r i k = true) : ∃ a b, a < nLo P ∧ b < nSi P ∧ i = nI a ∧ k = nI b := by
  unfold rdy ftL ftS at h
  simp only [Bool.and_eq_true] at h
  obtain ⟨a, ha, e1⟩ := inN_of h.1.1
  obtain ⟨b, hb, e2⟩ := inN_of h.2.1
  exact ⟨a, b, ha, hb, e1, e2⟩
def aFlight (P : mP) (r : mW) (i k w what : Int32) : Int32 := if (inN i (nLo P) && inN k (nSi P) && okI w (nI 0) (nI 24) && okI what (nI 0) (nI 3)) = true then (if rdy P r i k = true then (let o := flyS P r i.toInt.toNat k.toInt.toNat (r (40 + k.toInt.toNat)) w
  if what = nI 0 then o.1 else if what = nI 1 then o.2.1 else if what = nI 2 then o.2.2.1 else o.2.2.2.1) else -2) else -1
theorem fl_jk {I J : mI} (f : Fi flA I J) : Fi jk I J := f.up fun a j q => by unfold flA at q; unfold jk; omega
theorem c_flight (d : Nat) {S : mS} {I : mI} {L : mJ} {P : mP} {r : mW} (G : Gd S) (hv : PV P) (hr : RV P r) (h : CC S I P r) (i k w what : Int32) : ∃ J, evM zcod (d + 6) 127 [.ref 7, .int i, .int k, .int w, .int what] (S, I, L) = some (some (.int (aFlight P r i k w what)), (S, J, L)) ∧ Fi jk I J := by
  rw [E_X11_flight]
  simp only [B_X11_flight_0, B_X11_flight_29, B_X11_flight_31, B_X11_flight_46, B_X11_flight_96, B_X11_flight_104, B_X11_flight_112, B_X11_flight_120, g7 G, gSt G is39, gCo G, if_true, c_isPair _ G hv h, w_in, s_isReady _ G is39 hv h.1, bI_eq]
  unfold aFlight
  cases c1 : inN i (nLo P) && inN k (nSi P)
  · simp only [Bool.false_and, if_false, Bool.false_eq_true, if_true]
    exact ⟨I, rfl, Fi.rf⟩
  · cases c2 : okI w (nI 0) (nI 24)
    · simp only [Bool.true_and, Bool.false_and, if_false, Bool.false_eq_true, if_true, n10]
      exact ⟨I, rfl, Fi.rf⟩
    · cases c3 : okI what (nI 0) (nI 3)
      · simp only [Bool.true_and, Bool.false_and, if_false, Bool.false_eq_true, if_true, n10, not_true_eq_false]
        exact ⟨I, rfl, Fi.rf⟩
      · simp only [Bool.true_and, if_true, n10, if_false, not_false_eq_true]
        cases c4 : rdy P r i k
        · simp only [if_false, Bool.false_eq_true, not_true_eq_false]
          exact ⟨I, rfl, Fi.rf⟩
        · simp only [if_true, n10, not_false_eq_true]
          obtain ⟨a, b, ha, hb, rfl, rfl⟩ := rdy_in c4
          have v := hv
          obtain ⟨v1, v2, -⟩ := v
          obtain ⟨J, e, f, j3, j4, j5, j6, j7⟩ := s_fly d (L := L) G hv hr h ha hb (r (40 + b)) w
          simp only [s_atN _ (h.1.ts G is39 hv) hb (show 3 < 4 by omega), (h.1.si hb).2.2.2, bI_eq, if_true, e, bV_eq, j3, j4, j5, j6, t_nI (show a < 2147483648 by omega), t_nI (show b < 2147483648 by omega), Int.toNat_natCast, B_X11_flight_0, B_X11_flight_29, B_X11_flight_31, B_X11_flight_46, B_X11_flight_96, B_X11_flight_104, B_X11_flight_112, B_X11_flight_120, g7 G, gCo G]
          refine ⟨J, ?_, fl_jk f⟩
          split
          · rfl
          · split
            · rfl
            · split <;> rfl
/-- the fewest hours of waiting from w on, n tries -/
def soonF (P : mP) (r : mW) (a b : Nat) (h : Int32) : Nat → Nat → Int32
  | 0, _ => -2
  | n + 1, w => if (flyS P r a b (r (40 + b)) (nI w)).2.2.1 = h then nI w else soonF P r a b h n (w + 1)
def aSoon (P : mP) (r : mW) (i k h : Int32) : Int32 := if (rdy P r i k && inN h (nHo P)) = true then soonF P r i.toInt.toNat k.toInt.toNat h 25 0 else -1
theorem c_soon (d : Nat) {S : mS} {I : mI} {L : mJ} {P : mP} {r : mW} (G : Gd S) (hv : PV P) (hr : RV P r) (h : CC S I P r) (i k hk : Int32) : ∃ J, evM zcod (d + 6) 128 [.ref 7, .int i, .int k, .int hk] (S, I, L) = some (some (.int (aSoon P r i k hk)), (S, J, L)) ∧ Fi jk I J := by
  rw [E_X11_soon]
  simp only [B_X11_soon_0, B_X11_soon_26, g7 G, gSt G is39, if_true, s_isReady _ G is39 hv h.1, s_has _ (h.1.th G is39 hv), bI_eq]
  unfold aSoon
  cases c4 : rdy P r i k
  · simp only [if_false, Bool.false_eq_true, if_true, Bool.false_and]
    exact ⟨I, rfl, Fi.rf⟩
  · cases c5 : inN hk (nHo P)
    · simp only [if_false, Bool.false_eq_true, if_true, n10, not_true_eq_false, Bool.and_false]
      exact ⟨I, rfl, Fi.rf⟩
    · simp only [if_true, n10, not_false_eq_true, if_false, Bool.and_self]
      obtain ⟨a, b, ha, hb, rfl, rfl⟩ := rdy_in c4
      have v := hv
      obtain ⟨v1, v2, -⟩ := v
      simp only [B_X11_soon_28, g7 G, gSt G is39, if_true, s_atN _ (h.1.ts G is39 hv) hb (show 3 < 4 by omega), (h.1.si hb).2.2.2, bI_eq, t_nI (show a < 2147483648 by omega), t_nI (show b < 2147483648 by omega), Int.toNat_natCast]
      have key : ∀ n w, n + w = 25 → ∀ I, CC S I P r → ∃ J, evk zcod none (d + 5) zc_X11_soon 45 [(0, .ref 7), (1, .int (nI a)), (2, .int (nI b)), (3, .int hk), (4, .int (r (40 + b))), (5, .int (nI w))] [] (S, I, L) = some (some (.int (soonF P r a b hk n w)), (S, J, L)) ∧ Fi jk I J := by
        intro n
        induction n with
        | zero =>
          intro w hw I h
          refine ⟨I, ?_, Fi.rf⟩
          rw [B_X11_soon_45, if_pos (nI_lt (by omega) (by omega)), B_X11_soon_85]
          rfl
        | succ n ih =>
          intro w hw I h
          obtain ⟨J, e, f, j3, j4, j5, j6, j7⟩ := s_fly d (L := L) G hv hr h ha hb (r (40 + b)) (nI w)
          rw [B_X11_soon_45, if_neg (nI_nlt (by omega) (by omega))]
          simp only [g7 G, if_true, e, bV_eq, j5]
          unfold soonF
          by_cases c : (flyS P r a b (r (40 + b)) (nI w)).2.2.1 = hk
          · rw [if_neg (fun q => q c), if_pos c]
            exact ⟨J, rfl, fl_jk f⟩
          · rw [if_pos c, if_neg c, B_X11_soon_79, nI_add]
            obtain ⟨K, e2, f2⟩ := ih (w + 1) (by omega) J (h.fi (fl_jk f))
            exact ⟨K, e2, (fl_jk f).tr f2⟩
      exact key 25 0 (by omega) I h
