/-! what the class answers, third group: waiting, hours tried, what is told -/
def gainS (P : mP) (r : mW) (a b : Nat) (w : Int32) : Int32 := earnS P r a b (r (40 + b)) w - lawT P (r 55 + w) (nI 0) (stS P r) (sta P (30 + b)) (sta P (10 + a)) - w
theorem c_gainBehind (d : Nat) {S : mS} {I : mI} {L : mJ} {P : mP} {r : mW} (G : Gd S) (hv : PV P) (hr : RV P r) (h : CC S I P r) {a b : Nat} (ha : a < nLo P) (hb : b < nSi P) (w : Int32) : ∃ J, evM zcod (d + 6) 150 [.ref 7, .int (nI a), .int (nI b), .int w] (S, I, L) = some (some (.int (gainS P r a b w)), (S, J, L)) ∧ Fi jk I J := by
  obtain ⟨J, e, f, j3, j4, j5, j6, j7⟩ := s_fly d (L := L) G hv hr h ha hb (r (40 + b)) w
  have h1 := h.fi (fl_jk f)
  have f2 := skB_f J (r 55 + w) (nI 0) (stS P r)
  have B := skB_b J (r 55 + w) (nI 0) (stS P r)
  have h2 : CC S (skB J (r 55 + w) (nI 0) (stS P r)) P r := h1.fi (f2.up fun a j q => by unfold jk; omega)
  obtain ⟨K, e3, f3⟩ := s_ties (d + 2) (L := L) G h2.2.1 B (sta P (30 + b)) (sta P (10 + a))
  have k7 : K 58 7 = earnS P r a b (r (40 + b)) w := (f3 58 7 (by unfold skA; omega)).trans ((f2 58 7 (by omega)).trans j7)
  refine ⟨K, ?_, ((fl_jk f).tr (f2.up fun a j q => by unfold jk; omega)).tr (sk_jk f3)⟩
  rw [E_X11_gainBehind]
  simp only [B_X11_gainBehind_0, B_X11_gainBehind_46, g7 G, gSt G is39, if_true, s_atN _ (h.1.ts G is39 hv) hb (show 3 < 4 by omega), (h.1.si hb).2.2.2, bI_eq, e, bV_eq, s_stored _ G is39 hv h1.1, h1.1.ti.1, s_begin _ G]
  rw [show skB J (r 55 + w) (nI 0) (nI (soN P r (nI 2))) = skB J (r 55 + w) (nI 0) (stS P r) from rfl]
  simp only [s_atN _ (h2.1.ts G is39 hv) hb (show 0 < 4 by omega), s_atN _ (h2.1.tl G is39 hv) ha (show 1 < 7 by omega), bI_eq, if_true, h2.1.si hb, h2.1.lo ha, e3, k7, g7 G, gSt G is39]
  rfl
/-- the wait with most, as loops find it: from w on, n tries, the best so far -/
def waiF (P : mP) (r : mW) (a b : Nat) : Nat → Nat → Int32 → Int32 → Int32 × Int32
  | 0, _, best, most => (best, most)
  | n + 1, w, best, most => if gainS P r a b (nI w) ≤ most then waiF P r a b n (w + 1) best most else waiF P r a b n (w + 1) (nI w) (gainS P r a b (nI w))
def aWaits (P : mP) (r : mW) (i k what : Int32) : Int32 := if (rdy P r i k && okI what (nI 0) (nI 1)) = true then (let o := waiF P r i.toInt.toNat k.toInt.toNat 24 1 (nI 0) (gainS P r i.toInt.toNat k.toInt.toNat (nI 0)); if what = nI 0 then o.1 else o.2) else Int32.ofNat 4294867296
theorem c_waits (d : Nat) {S : mS} {I : mI} {L : mJ} {P : mP} {r : mW} (G : Gd S) (hv : PV P) (hr : RV P r) (h : CC S I P r) (i k what : Int32) : ∃ J, evM zcod (d + 7) 134 [.ref 7, .int i, .int k, .int what] (S, I, L) = some (some (.int (aWaits P r i k what)), (S, J, L)) ∧ Fi jk I J := by
  rw [E_X11_waits]
  simp only [B_X11_waits_0, B_X11_waits_21, g7 G, gSt G is39, if_true, s_isReady _ G is39 hv h.1, w_in, bI_eq]
  unfold aWaits
  cases c4 : rdy P r i k
  · simp only [if_false, Bool.false_eq_true, if_true, Bool.false_and]
    exact ⟨I, rfl, Fi.rf⟩
  · cases c5 : okI what (nI 0) (nI 1)
    · simp only [if_false, Bool.false_eq_true, if_true, n10, not_true_eq_false, Bool.and_false]
      exact ⟨I, rfl, Fi.rf⟩
    · simp only [if_true, n10, not_false_eq_true, if_false, Bool.and_self]
      obtain ⟨a, b, ha, hb, rfl, rfl⟩ := rdy_in c4
      have v := hv
      obtain ⟨v1, v2, -⟩ := v
      obtain ⟨J0, e0, f0⟩ := c_gainBehind d (L := L) G hv hr h ha hb (nI 0)
      simp only [B_X11_waits_24, g7 G, if_true, e0, bI_eq, t_nI (show a < 2147483648 by omega), t_nI (show b < 2147483648 by omega), Int.toNat_natCast]
      have key : ∀ n w, n + w = 25 → ∀ (I : mI) (best most : Int32), CC S I P r → ∃ J, evk zcod none (d + 6) zc_X11_waits 39 [(0, .ref 7), (1, .int (nI a)), (2, .int (nI b)), (3, .int what), (4, .int best), (5, .int most), (6, .int (nI w))] [] (S, I, L) = some (some (.int (let o := waiF P r a b n w best most; if what = nI 0 then o.1 else o.2)), (S, J, L)) ∧ Fi jk I J := by
        intro n
        induction n with
        | zero =>
          intro w hw I best most h
          refine ⟨I, ?_, Fi.rf⟩
          rw [B_X11_waits_39, if_pos (nI_lt (by omega) (by omega)), B_X11_waits_77]
          simp only [B_X11_waits_86, B_X11_waits_88]
          unfold waiF
          by_cases c : what = nI 0
          · rw [if_neg (fun q => q c), if_pos c]
          · rw [if_pos c, if_neg c]
        | succ n ih =>
          intro w hw I best most h
          obtain ⟨J, e, f⟩ := c_gainBehind d (L := L) G hv hr h ha hb (nI w)
          rw [B_X11_waits_39, if_neg (nI_nlt (by omega) (by omega))]
          simp only [g7 G, if_true, e, bI_eq, B_X11_waits_71, nI_add]
          unfold waiF
          by_cases c : gainS P r a b (nI w) ≤ most
          · rw [if_pos c, if_pos c]
            obtain ⟨K, e2, f2⟩ := ih (w + 1) (by omega) J best most (h.fi f)
            exact ⟨K, e2, f.tr f2⟩
          · rw [if_neg c, if_neg c]
            obtain ⟨K, e2, f2⟩ := ih (w + 1) (by omega) J (nI w) (gainS P r a b (nI w)) (h.fi f)
            exact ⟨K, e2, f.tr f2⟩
      obtain ⟨K, e, f⟩ := key 24 1 (by omega) J0 (nI 0) (gainS P r a b (nI 0)) (h.fi f0)
      exact ⟨K, e, f0.tr f⟩
theorem c_tryHours (d : Nat) {S : mS} {I : mI} {L : mJ} {P : mP} {r : mW} (G : Gd S) (hv : PV P) (hr : RV P r) (h : CC S I P r) {n : Nat} (hn : n < 100) (sd : Int32) : ∃ J, evM zcod (d + 7) 151 [.ref 7, .int (nI n), .int sd] (S, I, L) = some (none, (S, J, L)) ∧ CS J 46 P (goesS P sd n r) ∧ Fi jk I J := by
  obtain ⟨J, e, c, f⟩ := s_become (d + 3) (L := L) G is39 is46 (by omega) hv h.1 h.2.2.2.2.2
  have p : PC S J P := h.pc.fi fun a q => f.row a fun j => by omega
  obtain ⟨K, e2, c2, f2⟩ := s_pass d (L := L) G is46 (by omega) hv sd hn hr p c
  refine ⟨K, ?_, c2, fun a j q => ?_⟩
  · rw [E_X11_tryHours]
    simp only [B_X11_tryHours_0, g7 G, gSt G is46, gSt G is39, if_true, e, bV_eq, e2]
  · by_cases w : (a = 47 ∨ a = 49 ∨ a = 51) ∧ j < 2
    · have w1 := c2.wd
      have w0 := h.2.2.2.2.2
      obtain ⟨x1, x2, x3, x4, x5, x6⟩ := w1
      obtain ⟨y1, y2, y3, y4, y5, y6⟩ := w0
      obtain ⟨w2, w3⟩ := w
      rcases w2 with rfl | rfl | rfl
      · rcases (show j = 0 ∨ j = 1 by omega) with rfl | rfl
        · exact x1.trans y1.symm
        · exact x2.trans y2.symm
      · rcases (show j = 0 ∨ j = 1 by omega) with rfl | rfl
        · exact x3.trans y3.symm
        · exact x4.trans y4.symm
      · rcases (show j = 0 ∨ j = 1 by omega) with rfl | rfl
        · exact x5.trans y5.symm
        · exact x6.trans y6.symm
    · rw [f2 a j (by unfold jk at q; unfold airA; omega), f a j (by unfold jk at q; omega)]
def aThen (P : mP) (r : mW) (i n what : Int32) : Int32 := if (inN i (nLo P) && okI n (nI 0) (nI 72) && okI what (nI 0) (nI 2)) = true then (let q := goesS P (sta P 2) n.toInt.toNat r; if what = nI 0 then q (7 + i.toInt.toNat) else if what = nI 1 then q i.toInt.toNat else q (14 + i.toInt.toNat)) else -1
theorem c_then (d : Nat) {S : mS} {I : mI} {L : mJ} {P : mP} {r : mW} (G : Gd S) (hv : PV P) (hr : RV P r) (h : CC S I P r) (i n what : Int32) : ∃ J, evM zcod (d + 8) 135 [.ref 7, .int i, .int n, .int what] (S, I, L) = some (some (.int (aThen P r i n what)), (S, J, L)) ∧ Fi jk I J := by
  have v := hv
  obtain ⟨v1, v2, -⟩ := v
  rw [E_X11_then]
  simp only [B_X11_then_0, B_X11_then_33, B_X11_then_35, B_X11_then_64, B_X11_then_81, B_X11_then_82, g7 G, gSt G is39, gSt G is46, if_true, s_has _ (h.1.tl G is39 hv), w_in, bI_eq, h.2.2.2.2.1]
  unfold aThen
  cases c1 : inN i (nLo P)
  · simp only [Bool.false_and, Bool.false_eq_true, if_false, if_true]
    exact ⟨I, rfl, Fi.rf⟩
  · cases c2 : okI n (nI 0) (nI 72)
    · simp only [Bool.and_false, Bool.false_and, Bool.false_eq_true, if_false, if_true, n10]
      exact ⟨I, rfl, Fi.rf⟩
    · cases c3 : okI what (nI 0) (nI 2)
      · simp only [Bool.and_false, Bool.false_and, Bool.false_eq_true, if_false, if_true, n10, not_true_eq_false]
        exact ⟨I, rfl, Fi.rf⟩
      · simp only [Bool.and_self, if_true, n10, if_false, not_false_eq_true]
        obtain ⟨a, ha, rfl⟩ := inN_of c1
        obtain ⟨k, hk, rfl⟩ := okI_n c2 (by omega)
        obtain ⟨J, e, c, f⟩ := c_tryHours d (L := L) G hv hr h (show k < 100 by omega) (sta P 2)
        have T := c.tl G is46 hv
        have q := c.lo ha
        simp only [e, bV_eq, if_true, s_atN _ T ha (show 3 < 7 by omega), s_atN _ T ha (show 0 < 7 by omega), s_atN _ T ha (show 4 < 7 by omega), bI_eq, q, t_nI (show a < 2147483648 by omega), t_nI (show k < 2147483648 by omega), Int.toNat_natCast, gSt G is46, g7 G]
        by_cases d1 : what = nI 0
        · rw [if_neg (fun q => q d1), if_pos d1]
          exact ⟨J, rfl, f⟩
        · rw [if_pos d1, if_neg d1]
          refine ⟨J, ?_, f⟩
          simp only [B_X11_then_0, B_X11_then_33, B_X11_then_35, B_X11_then_64, B_X11_then_81, B_X11_then_82, g7 G, gSt G is46, if_true, s_atN _ T ha (show 0 < 7 by omega), s_atN _ T ha (show 4 < 7 by omega), bI_eq, q]
          by_cases d2 : what = nI 1
          · rw [if_neg (fun q => q d2), if_pos d2]
          · rw [if_pos d2, if_neg d2]
def aEarns (P : mP) (r : mW) (n : Int32) : Int32 := if okI n (nI 0) (nI 72) = true then goesS P (sta P 2) n.toInt.toNat r 56 - r 56 else -1
theorem c_earns (d : Nat) {S : mS} {I : mI} {L : mJ} {P : mP} {r : mW} (G : Gd S) (hv : PV P) (hr : RV P r) (h : CC S I P r) (n : Int32) : ∃ J, evM zcod (d + 8) 136 [.ref 7, .int n] (S, I, L) = some (some (.int (aEarns P r n)), (S, J, L)) ∧ Fi jk I J := by
  rw [E_X11_earns]
  simp only [B_X11_earns_0, B_X11_earns_12, g7 G, gSt G is39, gSt G is46, if_true, w_in, bI_eq, h.2.2.2.2.1]
  unfold aEarns
  cases c2 : okI n (nI 0) (nI 72)
  · simp only [Bool.false_eq_true, if_false, not_true_eq_false]
    exact ⟨I, rfl, Fi.rf⟩
  · simp only [if_true, n10, not_false_eq_true]
    obtain ⟨k, hk, rfl⟩ := okI_n c2 (by omega)
    obtain ⟨J, e, c, f⟩ := c_tryHours d (L := L) G hv hr h (show k < 100 by omega) (sta P 2)
    have h2 := h.fi f
    simp only [e, bV_eq, if_true, g7 G, gSt G is39, gSt G is46, c.ti.2.1, h2.1.ti.2.1, t_nI (show k < 2147483648 by omega), Int.toNat_natCast]
    exact ⟨J, rfl, f⟩
/-- in how many of n seeds from sd on a load is stored -/
def yeaF (P : mP) (r : mW) (a k : Nat) (sd : Int32) : Nat → Nat → Nat
  | 0, c => c
  | n + 1, c => yeaF P r a k (sd + nI 1) n (if goesS P sd k r (7 + a) = nI 2 then c + 1 else c)
def aYear (P : mP) (r : mW) (i n s : Int32) : Int32 := if (inN i (nLo P) && okI n (nI 0) (nI 72) && okI s (nI 1) (nI 20)) = true then nI (yeaF P r i.toInt.toNat n.toInt.toNat (sta P 2) s.toInt.toNat 0) else -1
theorem c_year (d : Nat) {S : mS} {I : mI} {L : mJ} {P : mP} {r : mW} (G : Gd S) (hv : PV P) (hr : RV P r) (h : CC S I P r) (i n s : Int32) : ∃ J, evM zcod (d + 8) 137 [.ref 7, .int i, .int n, .int s] (S, I, L) = some (some (.int (aYear P r i n s)), (S, J, L)) ∧ Fi jk I J := by
  have v := hv
  obtain ⟨v1, v2, -⟩ := v
  rw [E_X11_year]
  simp only [B_X11_year_0, B_X11_year_34, B_X11_year_36, g7 G, gSt G is39, if_true, s_has _ (h.1.tl G is39 hv), w_in, bI_eq]
  unfold aYear
  cases c1 : inN i (nLo P)
  · simp only [Bool.false_and, Bool.false_eq_true, if_false, if_true]
    exact ⟨I, rfl, Fi.rf⟩
  · cases c2 : okI n (nI 0) (nI 72)
    · simp only [Bool.and_false, Bool.false_and, Bool.false_eq_true, if_false, if_true, n10]
      exact ⟨I, rfl, Fi.rf⟩
    · cases c3 : okI s (nI 1) (nI 20)
      · simp only [Bool.and_false, Bool.false_and, Bool.false_eq_true, if_false, if_true, n10, not_true_eq_false]
        exact ⟨I, rfl, Fi.rf⟩
      · simp only [Bool.and_self, if_true, n10, if_false, not_false_eq_true]
        obtain ⟨a, ha, rfl⟩ := inN_of c1
        obtain ⟨k, hk, rfl⟩ := okI_n c2 (by omega)
        obtain ⟨m, hm, rfl⟩ : ∃ m, m ≤ 20 ∧ s = nI m := by
          unfold okI at c3
          have q := of_decide_eq_true c3
          rw [i_le, i_le, t_nI (by omega), t_nI (by omega)] at q
          obtain ⟨m, w1, w2⟩ := i_of2 (x := s) (n := 21) (by omega) (by omega)
          exact ⟨m, by omega, w2⟩
        have key : ∀ j w, j + w = m → ∀ (I : mI) (c : Nat), c ≤ w → CC S I P r → ∃ J, evk zcod none (d + 7) zc_X11_year 42 [(0, .ref 7), (1, .int (nI a)), (2, .int (nI k)), (3, .int (nI m)), (4, .int (nI c)), (5, .int (nI w))] [] (S, I, L) = some (some (.int (nI (yeaF P r a k (sta P 2 + nI w) j c))), (S, J, L)) ∧ Fi jk I J := by
          intro j
          induction j with
          | zero =>
            intro w hw I c hc h
            refine ⟨I, ?_, Fi.rf⟩
            rw [B_X11_year_42, if_pos (nI_le (by omega) (by omega)), B_X11_year_88]
            rfl
          | succ j ih =>
            intro w hw I c hc h
            obtain ⟨J, e, cs, f⟩ := c_tryHours d (L := L) G hv hr h (show k < 100 by omega) (sta P 2 + nI w)
            have T := cs.tl G is46 hv
            rw [B_X11_year_42, if_neg (nI_ge (by omega) (by omega))]
            simp only [g7 G, gSt G is46, if_true, h.2.2.2.2.1, e, bV_eq, s_atN _ T ha (show 3 < 7 by omega), bI_eq, cs.lo ha, B_X11_year_82, nI_add]
            unfold yeaF
            by_cases q : goesS P (sta P 2 + nI w) k r (7 + a) = nI 2
            · rw [if_neg (fun z => z q), if_pos q]
              obtain ⟨K, e2, f2⟩ := ih (w + 1) (by omega) J (c + 1) (by omega) (h.fi f)
              rw [← nI_add w 1, ← Int32.add_assoc] at e2
              exact ⟨K, by rw [← e2, nI_add], f.tr f2⟩
            · rw [if_pos q, if_neg q]
              obtain ⟨K, e2, f2⟩ := ih (w + 1) (by omega) J c (by omega) (h.fi f)
              rw [← nI_add w 1, ← Int32.add_assoc] at e2
              exact ⟨K, by rw [← e2, nI_add], f.tr f2⟩
        have z0 : sta P 2 + nI 0 = sta P 2 := by rw [nI_0]; exact Int32.add_zero _
        obtain ⟨J, e, f⟩ := key m 0 (by omega) I 0 (by omega) h
        rw [z0] at e
        refine ⟨J, ?_, f⟩
        rw [e, t_nI (by omega), t_nI (by omega), t_nI (by omega)]
        rfl
