/-! flights told -/
/-- what is told: T i is size, weight, where from, hours behind, where seen -/
def TV (T : Nat → Nat → Int32) (nt : Nat) : Prop := nt ≤ 20 ∧ ∀ i, i < nt → (0 ≤ (T i 2).toInt ∧ (T i 2).toInt ≤ 19) ∧ ∃ m, m ≤ 9 ∧ T i 3 = nI m
def TC (S : mS) (I : mI) (T : Nat → Nat → Int32) (nt : Nat) : Prop := Tg S I 382 383 20 5 nt ∧ ∀ i, i < nt → ∀ c, c < 5 → I 383 (i * 5 + c) = T i c
def TM (I : mI) (T : Nat → Nat → Int32) (nt : Nat) : Prop := I 384 74 = nI nt ∧ ∀ i, i < nt → I 430 i = T i 0 ∧ I 431 i = T i 1 ∧ I 432 i = T i 2 ∧ I 433 i = T i 3 ∧ I 434 i = T i 4
theorem TC.fi {S : mS} {I J : mI} {T : Nat → Nat → Int32} {nt : Nat} (h : TC S I T nt) (f : Fi jk I J) : TC S J T nt := by
  have e : ∀ a, 78 ≤ a → J a = I a := fun a q => f.row a fun j => by unfold jk; omega
  refine ⟨h.1.fi (by rw [e 382 (by omega)]) (by rw [e 382 (by omega)]) (by rw [e 382 (by omega)]), fun i hi c hc => ?_⟩
  rw [e 383 (by omega)]
  exact h.2 i hi c hc
theorem TM.fi {I J : mI} {T : Nat → Nat → Int32} {nt : Nat} (h : TM I T nt) (f : Fi mj I J) : TM J T nt := by
  have e : ∀ a, 430 ≤ a → J a = I a := fun a q => f.row a fun j => by unfold mj; omega
  refine ⟨(f 384 74 (by unfold mj; omega)).trans h.1, fun i hi => ?_⟩
  rw [e 430 (by omega), e 431 (by omega), e 432 (by omega), e 433 (by omega), e 434 (by omega)]
  exact h.2 i hi
/-- the pull v fits what is told by i -/
def fitS (P : mP) (r : mW) (T : Nat → Nat → Int32) (v : Int32) (i : Nat) : Bool := (let o := goS P r (stS P r) (T i 0) (T i 1) v (r 55) (T i 3).toInt.toNat 0 (T i 2) (nI 0); decide (o.2.1 = nI 0) && decide (o.2.2.2.1 = T i 4))
def fitA (P : mP) (r : mW) (T : Nat → Nat → Int32) (v : Int32) : Nat → Nat → Bool
  | 0, _ => true
  | n + 1, i => fitS P r T v i && fitA P r T v n (i + 1)
def pulB (P : mP) (r : mW) (T : Nat → Nat → Int32) (k : Nat) : Nat := bs (fun w => fitA P r T (nI w - nI 3) k 0) 7
theorem bit7 : ∀ w, w < 7 → (nI w - nI 3 + nI 3) &&& nI 31 = nI w &&& nI 31 := by decide +kernel
theorem c_bitOf (d : Nat) {S : mS} {I : mI} {L : mJ} {w : Nat} (hw : w < 7) : evM zcod (d + 1) 152 [.int (nI w - nI 3)] (S, I, L) = some (some (.int (nI 1 <<< (nI w &&& nI 31))), (S, I, L)) := by
  rw [E_X11_bitOf, B_X11_bitOf_0, bit7 w hw]
theorem c_fits (d : Nat) {S : mS} {I : mI} {L : mJ} {P : mP} {r : mW} (G : Gd S) (hv : PV P) (hr : RV P r) (h : CC S I P r) {T : Nat → Nat → Int32} {nt : Nat} (hT : TV T nt) (ht : TC S I T nt) {k : Nat} (hk : k ≤ nt) (v : Int32) : ∃ J, evM zcod (d + 5) 154 [.ref 7, .int (nI k), .int v] (S, I, L) = some (some (.int (if fitA P r T v k 0 = true then nI 1 else nI 0)), (S, J, L)) ∧ Fi jk I J := by
  have t20 := hT.1
  have key : ∀ m i, m + i = k → ∀ I, CC S I P r → TC S I T nt → ∃ J, evk zcod none (d + 4) zc_X11_fitsKnown 2 [(0, .ref 7), (1, .int (nI k)), (2, .int v), (3, .int (nI i))] [] (S, I, L) = some (some (.int (if fitA P r T v m i = true then nI 1 else nI 0)), (S, J, L)) ∧ Fi jk I J := by
    intro m
    induction m with
    | zero =>
      intro i hi I h ht
      refine ⟨I, ?_, Fi.rf⟩
      rw [B_X11_fitsKnown_2, if_pos (nI_le (by omega) (by omega)), B_X11_fitsKnown_95]
      rfl
    | succ m ih =>
      intro i hi I h ht
      have hi2 : i < nt := by omega
      obtain ⟨hx, q, hq, e3⟩ := hT.2 i hi2
      have tt := ht.2 i hi2
      obtain ⟨J, e, f, j3, j4, j5, j6, jB⟩ := s_go d (L := L) G hv hr h (T i 0) (T i 1) v (T i 2) (r 55) (n := q) (by omega) hx
      have hJ := h.fi (co_jk f)
      have tJ := ht.fi (co_jk f)
      have ttJ := tJ.2 i hi2
      rw [B_X11_fitsKnown_2, if_neg (nI_ge (by omega) (by omega))]
      simp only [g7 G, gSt G is39, if_true, s_atN _ ht.1 hi2 (show 0 < 5 by omega), s_atN _ ht.1 hi2 (show 1 < 5 by omega), s_atN _ ht.1 hi2 (show 2 < 5 by omega), s_atN _ ht.1 hi2 (show 3 < 5 by omega), bI_eq, tt 0 (by omega), tt 1 (by omega), tt 2 (by omega), tt 3 (by omega), e3, h.1.ti.1, e, bV_eq, B_X11_fitsKnown_58, j4, s_atN _ tJ.1 hi2 (show 4 < 5 by omega), ttJ 4 (by omega), j6, B_X11_fitsKnown_87, B_X11_fitsKnown_89, nI_add]
      have ef : fitS P r T v i = (decide ((goS P r (nI (soN P r (nI 2))) (T i 0) (T i 1) v (r 55) q 0 (T i 2) (nI 0)).2.1 = nI 0) && decide ((goS P r (nI (soN P r (nI 2))) (T i 0) (T i 1) v (r 55) q 0 (T i 2) (nI 0)).2.2.2.1 = T i 4)) := by
        unfold fitS
        rw [e3, t_nI (by omega)]
        rfl
      unfold fitA
      by_cases c1 : (goS P r (nI (soN P r (nI 2))) (T i 0) (T i 1) v (r 55) q 0 (T i 2) (nI 0)).2.1 = nI 0
      · rw [if_neg (fun z => z c1)]
        by_cases c2 : (goS P r (nI (soN P r (nI 2))) (T i 0) (T i 1) v (r 55) q 0 (T i 2) (nI 0)).2.2.2.1 = T i 4
        · rw [if_pos c2, ef, decide_eq_true c1, decide_eq_true c2]
          obtain ⟨K, e5, f5⟩ := ih (i + 1) (by omega) J hJ tJ
          exact ⟨K, e5, (co_jk f).tr f5⟩
        · rw [if_neg c2, ef, decide_eq_false c2]
          refine ⟨J, ?_, co_jk f⟩
          simp
      · rw [if_pos c1, ef, decide_eq_false c1]
        refine ⟨J, ?_, co_jk f⟩
        simp
  obtain ⟨J, e, f⟩ := key k 0 (by omega) I h ht
  refine ⟨J, ?_, f⟩
  rw [← e, E_X11_fitsKnown, B_X11_fitsKnown_0]
theorem c_pullsBy (d : Nat) {S : mS} {I : mI} {L : mJ} {P : mP} {r : mW} (G : Gd S) (hv : PV P) (hr : RV P r) (h : CC S I P r) {T : Nat → Nat → Int32} {nt : Nat} (hT : TV T nt) (ht : TC S I T nt) {k : Nat} (hk : k ≤ nt) : ∃ J, evM zcod (d + 6) 153 [.ref 7, .int (nI k)] (S, I, L) = some (some (.int (nI (pulB P r T k))), (S, J, L)) ∧ Fi jk I J := by
  let Q : Nat → Bool := fun w => fitA P r T (nI w - nI 3) k 0
  have key : ∀ m w, m + w = 7 → ∀ I, CC S I P r → TC S I T nt → ∃ J, evk zcod none (d + 5) zc_X11_pullsKnownBy 5 [(0, .ref 7), (1, .int (nI k)), (2, .int (nI (bs Q w))), (3, .int (nI w - nI 3))] [] (S, I, L) = some (some (.int (nI (bs Q 7))), (S, J, L)) ∧ Fi jk I J := by
    intro m
    induction m with
    | zero =>
      intro w hw I h ht
      refine ⟨I, ?_, Fi.rf⟩
      rw [B_X11_pullsKnownBy_5, if_pos ((m3_gt w (by omega)).mpr (by omega)), B_X11_pullsKnownBy_32, show w = 7 by omega]
    | succ m ih =>
      intro w hw I h ht
      obtain ⟨J, e, f⟩ := c_fits d (L := L) G hv hr h hT ht hk (nI w - nI 3)
      have hJ := h.fi f
      have tJ := ht.fi f
      rw [B_X11_pullsKnownBy_5, if_neg (fun q => by have := (m3_gt w (by omega)).mp q; omega)]
      simp only [g7 G, if_true, e, bI_eq]
      by_cases c : fitA P r T (nI w - nI 3) k 0 = true
      · simp only [if_pos c, n10, if_false, c_bitOf _ (show w < 7 by omega), bI_eq, if_true, B_X11_pullsKnownBy_26, m3_up, bs_or (P := Q) (show w < 8 by omega) c]
        obtain ⟨K, e2, f2⟩ := ih (w + 1) (by omega) J hJ tJ
        exact ⟨K, e2, f.tr f2⟩
      · simp only [if_neg c, if_true, B_X11_pullsKnownBy_26, m3_up, bs_no (P := Q) c]
        obtain ⟨K, e2, f2⟩ := ih (w + 1) (by omega) J hJ tJ
        exact ⟨K, e2, f.tr f2⟩
  obtain ⟨J, e, f⟩ := key 7 0 (by omega) I h ht
  refine ⟨J, ?_, f⟩
  rw [E_X11_pullsKnownBy, B_X11_pullsKnownBy_0, ← m3_0]
  exact e
def aPulls (P : mP) (r : mW) (T : Nat → Nat → Int32) (nt : Nat) (k what : Int32) : Int32 := if (okI k (nI 0) (nI nt) && okI what (nI 0) (nI 1)) = true then (if what = nI 0 then nI (pc (pulB P r T k.toInt.toNat) 7) else nI (pulB P r T k.toInt.toNat)) else -1
theorem c_pulls (d : Nat) {S : mS} {I : mI} {L : mJ} {P : mP} {r : mW} (G : Gd S) (hv : PV P) (hr : RV P r) (h : CC S I P r) {T : Nat → Nat → Int32} {nt : Nat} (hT : TV T nt) (ht : TC S I T nt) (k what : Int32) : ∃ J, evM zcod (d + 7) 140 [.ref 7, .int k, .int what] (S, I, L) = some (some (.int (aPulls P r T nt k what)), (S, J, L)) ∧ Fi jk I J := by
  have t20 := hT.1
  rw [E_X11_pulls]
  simp only [B_X11_pulls_0, B_X11_pulls_24, g7 G, if_true, s_size _ ht.1, w_in, bI_eq]
  unfold aPulls
  cases c1 : okI k (nI 0) (nI nt)
  · simp only [Bool.false_eq_true, if_false, if_true, Bool.false_and]
    exact ⟨I, rfl, Fi.rf⟩
  · cases c2 : okI what (nI 0) (nI 1)
    · simp only [Bool.false_eq_true, if_false, if_true, Bool.and_false, n10, not_true_eq_false]
      exact ⟨I, rfl, Fi.rf⟩
    · obtain ⟨m, hm, rfl⟩ := okI_n c1 (by omega)
      obtain ⟨J, e, f⟩ := c_pullsBy d (L := L) G hv hr h hT ht hm
      refine ⟨J, ?_, f⟩
      simp only [if_true, n10, if_false, not_false_eq_true, Bool.and_self, B_X11_pulls_26, g7 G, e, bI_eq, t_nI (show m < 2147483648 by omega), Int.toNat_natCast, B_X11_pulls_43, B_X11_pulls_44, s_bitCount _ (bs_lt (fun w => fitA P r T (nI w - nI 3) m 0) 7), pulB]
      by_cases w0 : what = nI 0
      · rw [if_neg (fun q => q w0), if_pos w0]
      · rw [if_pos w0, if_neg w0]
/-- the one pull that is left: from w on, n tries -/
def surF (b : Nat) : Nat → Nat → Int32
  | 0, _ => -100
  | n + 1, w => if nI b = nI 1 <<< (nI w &&& nI 31) then nI w - nI 3 else surF b n (w + 1)
def aSure (P : mP) (r : mW) (T : Nat → Nat → Int32) (nt : Nat) (k : Int32) : Int32 := if okI k (nI 0) (nI nt) = true then surF (pulB P r T k.toInt.toNat) 7 0 else -1000
theorem c_sure (d : Nat) {S : mS} {I : mI} {L : mJ} {P : mP} {r : mW} (G : Gd S) (hv : PV P) (hr : RV P r) (h : CC S I P r) {T : Nat → Nat → Int32} {nt : Nat} (hT : TV T nt) (ht : TC S I T nt) (k : Int32) : ∃ J, evM zcod (d + 7) 141 [.ref 7, .int k] (S, I, L) = some (some (.int (aSure P r T nt k)), (S, J, L)) ∧ Fi jk I J := by
  have t20 := hT.1
  rw [E_X11_sure]
  simp only [B_X11_sure_0, g7 G, if_true, s_size _ ht.1, w_in, bI_eq]
  unfold aSure
  cases c1 : okI k (nI 0) (nI nt)
  · simp only [Bool.false_eq_true, if_false, not_true_eq_false]
    exact ⟨I, rfl, Fi.rf⟩
  · obtain ⟨m, hm, rfl⟩ := okI_n c1 (by omega)
    obtain ⟨J, e, f⟩ := c_pullsBy d (L := L) G hv hr h hT ht hm
    refine ⟨J, ?_, f⟩
    simp only [if_true, n10, not_false_eq_true, B_X11_sure_19, g7 G, e, bI_eq, t_nI (show m < 2147483648 by omega), Int.toNat_natCast]
    rw [← m3_0]
    have key : ∀ q w, q + w = 7 → evk zcod none (d + 6) zc_X11_sure 28 [(2, .int (nI (pulB P r T m))), (3, .int (nI w - nI 3))] [] (S, J, L) = some (some (.int (surF (pulB P r T m) q w)), (S, J, L)) := by
      intro q
      induction q with
      | zero =>
        intro w hw
        rw [B_X11_sure_28, if_pos ((m3_gt w (by omega)).mpr (by omega)), B_X11_sure_49]
        rfl
      | succ q ih =>
        intro w hw
        rw [B_X11_sure_28, if_neg (fun q => by have := (m3_gt w (by omega)).mp q; omega), c_bitOf _ (show w < 7 by omega)]
        simp only [bI_eq, if_true, B_X11_sure_43, m3_up]
        unfold surF
        by_cases c : nI (pulB P r T m) = nI 1 <<< (nI w &&& nI 31)
        · rw [if_neg (fun z => z c), if_pos c]
        · rw [if_pos c, if_neg c]
          exact ih (w + 1) (by omega)
    exact key 7 0 (by omega)
