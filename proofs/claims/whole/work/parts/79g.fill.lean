/-! what fills the barn most: class side -/
def NEV : Int32 := Int32.ofNat 4293967296
def gnS (P : mP) (r : mW) (a b : Nat) : Int32 := if rdy P r (nI a) (nI b) = true then (if (flyS P r a b (r (40 + b)) (nI 0)).2.1 = nI 1 then earnS P r a b (r (40 + b)) (nI 0) - lawT P (r 55) (nI (soN P r (nI 1))) (nI (soN P r (nI 2))) (sta P (30 + b)) (sta P (10 + a)) else NEV) else NEV
/-- the sum by a silk, what comes after being known -/
def sbS (g nx : Nat → Int32) (b gone : Nat) : Int32 := if gone / 2 ^ b % 2 = 1 ∨ g b = NEV then NEV else g b + nx (gone ||| 2 ^ b)
def mx32 (x y : Int32) : Int32 := if x < y then y else x
def mxS (g nx : Nat → Int32) (gone : Nat) : Nat → Int32
  | 0 => nx gone
  | b + 1 => mx32 (mxS g nx gone b) (sbS g nx b gone)
/-- the most of the last k loads -/
def bsS (P : mP) (r : mW) : Nat → Nat → Int32
  | 0, _ => nI 0
  | k + 1, gone => mxS (gnS P r (6 - k)) (bsS P r k) gone 5
theorem s_gainOf (d : Nat) {S : mS} {I : mI} {L : mJ} {P : mP} {r : mW} (G : Gd S) (hv : PV P) (hr : RV P r) (h : CC S I P r) {a b : Nat} (ha : a < nLo P) (hb : b < nSi P) (rd : rdy P r (nI a) (nI b) = true) : ∃ J, evM zcod (d + 6) 94 [.ref 59, .int (nI a), .int (nI b)] (S, I, L) = some (some (.int (gnS P r a b)), (S, J, L)) ∧ Fi flA I J := by
  obtain ⟨J, e, f, j3, j4, j5, j6, j7⟩ := s_fly d (L := L) G hv hr h ha hb (r (40 + b)) (nI 0)
  have hJ := h.fi (fl_jk f)
  rw [E_X2_gainOf]
  simp only [B_X2_gainOf_0, gFi G, gSt G is39, gCo G, if_true, s_atN _ (h.1.ts G is39 hv) hb (show 3 < 4 by omega), (h.1.si hb).2.2.2, bI_eq, e, bV_eq, j4]
  unfold gnS
  rw [if_pos rd]
  by_cases c : (flyS P r a b (r (40 + b)) (nI 0)).2.1 = nI 1
  · rw [if_pos c, if_pos c]
    let J2 := skB J (r 55) (nI (soN P r (nI 1))) (nI (soN P r (nI 2)))
    have f2 : Fi (fun a _ => a = 54) J J2 := Fi.u (Fi.u (Fi.u (Fi.u Fi.rf rfl) rfl) rfl) rfl
    have hJ2 : CC S J2 P r := hJ.fi (f2.up fun x j q => by unfold jk; omega)
    have B : Begun J2 (r 55) (nI (soN P r (nI 1))) (nI (soN P r (nI 2))) := by
      refine ⟨?_, ?_, ?_, ?_⟩ <;> simp [J2, skB, uI_at]
    obtain ⟨J3, e3, f3⟩ := s_ties (d + 2) (L := L) G hJ2.2.1 B (sta P (30 + b)) (sta P (10 + a))
    have t7 : J2 58 7 = earnS P r a b (r (40 + b)) (nI 0) := (f2 58 7 (by omega)).trans j7
    refine ⟨J3, ?_, (f.tr (f2.up fun x j q => by unfold flA; omega)).tr (f3.up fun x j q => by unfold skA at q; unfold flA; omega)⟩
    rw [B_X2_gainOf_36]
    simp only [gFi G, gSt G is39, gSky G, gCo G, if_true, s_up _ G is39 hv hJ.1, s_stored _ G is39 hv hJ.1, bI_eq, hJ.1.ti]
    rw [s_begin _ G]
    simp only [bV_eq, if_true, gFi G, gSt G is39, gCo G]
    rw [s_atN _ (hJ2.1.ts G is39 hv) hb (show 0 < 4 by omega)]
    simp only [bI_eq, if_true, gFi G, gSt G is39]
    rw [s_atN _ (hJ2.1.tl G is39 hv) ha (show 1 < 7 by omega)]
    have c2l := hJ2.1.lo ha
    have c2s := hJ2.1.si hb
    simp only [bI_eq, if_true, gSky G, c2l, c2s, e3, t7]
    try rw [show skB J (r 55) (nI (soN P r (nI 1))) (nI (soN P r (nI 2))) 58 7 = earnS P r a b (r (40 + b)) (nI 0) from t7]
  · rw [if_neg c, if_neg c]
    exact ⟨J, rfl, f⟩
/-- gains as they stand from a load on -/
def GA (I : mI) (P : mP) (r : mW) (a b : Nat) : Prop := ∀ x y, x < a ∨ x = a ∧ y < b → y < 5 → I (61 + x) y = gnS P r x y
theorem gF61 {S : mS} (G : Gd S) {a : Nat} (h : a < 7) : kR S 60 a = 61 + a ∧ kK S (61 + a) = 20 ∧ kN S (61 + a) = 5 := by
  have g := gFi G
  match a, h with
  | 0, _ | 1, _ | 2, _ | 3, _ | 4, _ | 5, _ | 6, _ => simp [g]
theorem gF69 {S : mS} (G : Gd S) {a : Nat} (h : a < 8) : kR S 68 a = 69 + a ∧ kK S (69 + a) = 20 ∧ kN S (69 + a) = 32 := by
  have g := gFi G
  match a, h with
  | 0, _ | 1, _ | 2, _ | 3, _ | 4, _ | 5, _ | 6, _ | 7, _ => simp [g]
theorem s_gains (d : Nat) {S : mS} {L : mJ} {P : mP} {r : mW} (G : Gd S) (hv : PV P) (hr : RV P r) : ∀ {I : mI}, CC S I P r → ∃ J, evk zcod none (d + 6) zc_X2_weigh 2 [(0, .ref 59), (1, .int (nI 0))] [] (S, I, L) = evk zcod none (d + 6) zc_X2_weigh 58 [(0, .ref 59)] [] (S, J, L) ∧ GA J P r 7 0 ∧ Fi jk I J := by
  have inner : ∀ a, a < 7 → ∀ n b, n + b = 5 → ∀ I, CC S I P r → GA I P r a b → ∃ J, evk zcod none (d + 6) zc_X2_weigh 10 [(0, .ref 59), (1, .int (nI a)), (2, .int (nI b))] [] (S, I, L) = evk zcod none (d + 6) zc_X2_weigh 52 [(0, .ref 59), (1, .int (nI a))] [] (S, J, L) ∧ GA J P r (a + 1) 0 ∧ Fi jk I J := by
    intro a ha n
    induction n with
    | zero =>
      intro b hb I h hg
      refine ⟨I, ?_, fun x y q1 q2 => hg x y (by omega) q2, Fi.rf⟩
      rw [B_X2_weigh_10, if_pos (nI_le (by omega) (by omega))]
    | succ n ih =>
      intro b hb I h hg
      have g1 := gF61 G ha
      have hz : zin (nI a) 7 = True := ixT ha (by omega)
      have hi : zix (nI a) = a := ixI (by omega)
      have put : ∀ I', CC S I' P r → GA I' P r a b → ∃ J, evk zcod none (d + 6) zc_X2_weigh 45 [(0, .ref 59), (1, .int (nI a)), (2, .int (nI b))] [.int (gnS P r a b), .int (nI b), .ref (61 + a)] (S, I', L) = evk zcod none (d + 6) zc_X2_weigh 52 [(0, .ref 59), (1, .int (nI a))] [] (S, J, L) ∧ GA J P r (a + 1) 0 ∧ Fi jk I' J := by
        intro I' h' hg'
        have f0 : Fi jk I' (uI I' (61 + a) b (gnS P r a b)) := Fi.u Fi.rf (by unfold jk; omega)
        obtain ⟨J, e, j1, f⟩ := ih (b + 1) (by omega) (uI I' (61 + a) b (gnS P r a b)) (h'.fi f0) (fun x y q1 q2 => by
          by_cases w : x = a ∧ y = b
          · rw [w.1, w.2]; exact uI_same _ _ _ _
          · rw [uI_at, if_neg (fun q => w (by omega))]
            exact hg' x y (by omega) q2)
        refine ⟨J, ?_, j1, f0.tr f⟩
        rw [B_X2_weigh_45]
        simp only [g1, true_and]
        rw [if_pos (ixP (by omega) (by omega)), ixI (by omega), nI_add]
        exact e
      rw [B_X2_weigh_10, if_neg (nI_ge (by omega) (by omega))]
      simp only [gFi G, gSt G is39, if_true, true_and, hz, hi, g1, s_isReady _ G is39 hv h.1, bI_eq]
      cases c : rdy P r (nI a) (nI b)
      · have e0 : gnS P r a b = NEV := by
          unfold gnS
          rw [c]
          rfl
        have := put I h hg
        rw [e0] at this
        simp only [Bool.false_eq_true, if_false, if_true]
        rw [B_X2_weigh_43]
        exact this
      · obtain ⟨a', b', ha', hb', ea, eb⟩ := rdy_in c
        have v := hv
        obtain ⟨v1, v2, -⟩ := v
        have : a = a' := (nI_eq (by omega) (by omega)).mp ea
        subst this
        have : b = b' := (nI_eq (by omega) (by omega)).mp eb
        subst this
        obtain ⟨J, e, f⟩ := s_gainOf d (L := L) G hv hr h ha' hb' c
        obtain ⟨K, eK, k1, fK⟩ := put J (h.fi (fl_jk f)) (fun x y q1 q2 => (f _ _ (by unfold flA; omega)).trans (hg x y q1 q2))
        refine ⟨K, ?_, k1, (fl_jk f).tr fK⟩
        simp only [if_true, n10, if_false, e, bI_eq]
        exact eK
  have outer : ∀ n a, n + a = 7 → ∀ I, CC S I P r → GA I P r a 0 → ∃ J, evk zcod none (d + 6) zc_X2_weigh 2 [(0, .ref 59), (1, .int (nI a))] [] (S, I, L) = evk zcod none (d + 6) zc_X2_weigh 58 [(0, .ref 59)] [] (S, J, L) ∧ GA J P r 7 0 ∧ Fi jk I J := by
    intro n
    induction n with
    | zero =>
      intro a ha I h hg
      refine ⟨I, ?_, fun x y q1 q2 => hg x y (by omega) q2, Fi.rf⟩
      rw [B_X2_weigh_2, if_pos (nI_le (by omega) (by omega))]
    | succ n ih =>
      intro a ha I h hg
      obtain ⟨J, e, j1, f⟩ := inner a (by omega) 5 0 (by omega) I h hg
      obtain ⟨K, eK, k1, fK⟩ := ih (a + 1) (by omega) J (h.fi f) j1
      refine ⟨K, ?_, k1, f.tr fK⟩
      rw [B_X2_weigh_2, if_neg (nI_ge (by omega) (by omega)), e, B_X2_weigh_52, nI_add]
      exact eK
  intro I h
  exact outer 7 0 (by omega) I h (fun x y q1 q2 => by omega)
theorem or_n : ∀ g, g < 32 → ∀ b, b < 5 → nI g ||| (nI 1 <<< (nI b &&& nI 31)) = nI (g ||| 2 ^ b) ∧ g ||| 2 ^ b < 32 := by decide +kernel
theorem sh_n : ∀ g, g < 32 → ∀ b, b < 5 → (nI g >>> (nI b &&& nI 31)) &&& nI 1 = nI (g / 2 ^ b % 2) := by decide +kernel
theorem s_sumBy (d : Nat) {S : mS} {I : mI} {L : mJ} {P : mP} {r : mW} (G : Gd S) (hg : GA I P r 7 0) {k a b gone : Nat} (ha : a + k = 6) (hb : b < 5) (hq : gone < 32) (hn : ∀ s, s < 32 → I (69 + (a + 1)) s = bsS P r k s) : evM zcod (d + 1) 96 [.ref 59, .int (nI a), .int (nI b), .int (nI gone)] (S, I, L) = some (some (.int (sbS (gnS P r a) (bsS P r k) b gone)), (S, I, L)) := by
  have g1 := gF61 G (a := a) (by omega)
  have g2 := gF69 G (a := a + 1) (by omega)
  have hz : zin (nI a) 7 = True := ixT (by omega) (by omega)
  have hz2 : zin (nI (a + 1)) 8 = True := ixT (by omega) (by omega)
  have hz3 : zin (nI b) 5 = True := ixT (by omega) (by omega)
  obtain ⟨e1, e2⟩ := or_n gone hq b hb
  have hz4 : zin (nI (gone ||| 2 ^ b)) 32 = True := ixT e2 (by omega)
  rw [E_X2_sumBy]
  simp only [B_X2_sumBy_0, B_X2_sumBy_21, B_X2_sumBy_24, gFi G, if_true, true_and, sh_n gone hq b hb, hz, hz2, hz3, hz4, e1, nI_add, ixI (show a < 2147483648 by omega), ixI (show a + 1 < 2147483648 by omega), ixI (show b < 2147483648 by omega), ixI (show gone ||| 2 ^ b < 2147483648 by omega), g1, g2, hg a b (Or.inl (by omega)) hb, hn _ e2]
  unfold sbS
  have m2 : gone / 2 ^ b % 2 < 2 := Nat.mod_lt _ (by omega)
  by_cases c : gone / 2 ^ b % 2 = 1
  · rw [if_pos (Or.inl c), c, if_pos (by rw [n10]; exact fun q => q)]
    rfl
  · have c0 : gone / 2 ^ b % 2 = 0 := by omega
    rw [c0, if_neg (fun q => q rfl)]
    by_cases c2 : gnS P r a b = NEV
    · rw [if_pos (Or.inr c2), if_neg (fun q => q c2)]
      rfl
    · have c2' : ¬ gnS P r a b = Int32.ofNat 4293967296 := c2
      have c3 : ¬ ((0 : Nat) = 1 ∨ gnS P r a b = NEV) := by rintro (q | q); exact absurd q (by omega); exact c2 q
      rw [if_pos c2', if_neg c3]
theorem s_bestFrom (d : Nat) {S : mS} {I : mI} {L : mJ} {P : mP} {r : mW} (G : Gd S) (hg : GA I P r 7 0) {k a gone : Nat} (ha : a + k = 6) (hq : gone < 32) (hn : ∀ s, s < 32 → I (69 + (a + 1)) s = bsS P r k s) : evM zcod (d + 2) 95 [.ref 59, .int (nI a), .int (nI gone)] (S, I, L) = some (some (.int (bsS P r (k + 1) gone)), (S, I, L)) := by
  have g2 := gF69 G (a := a + 1) (by omega)
  have hz2 : zin (nI (a + 1)) 8 = True := ixT (by omega) (by omega)
  have hz3 : zin (nI gone) 32 = True := ixT (by omega) (by omega)
  have key : ∀ n b, n + b = 5 → evk zcod none (d + 1) zc_X2_bestFrom 14 [(0, .ref 59), (1, .int (nI a)), (2, .int (nI gone)), (3, .int (mxS (gnS P r a) (bsS P r k) gone b)), (4, .int (nI b))] [] (S, I, L) = some (some (.int (mxS (gnS P r a) (bsS P r k) gone 5)), (S, I, L)) := by
    intro n
    induction n with
    | zero =>
      intro b hb
      rw [B_X2_bestFrom_14, if_pos (nI_le (by omega) (by omega)), B_X2_bestFrom_39, show (5 : Nat) = b by omega]
    | succ n ih =>
      intro b hb
      rw [B_X2_bestFrom_14, if_neg (nI_ge (by omega) (by omega))]
      simp only [gFi G, if_true, s_sumBy _ G hg ha (show b < 5 by omega) hq hn, bI_eq, s_max, nI_add]
      exact ih (b + 1) (by omega)
  rw [E_X2_bestFrom]
  simp only [B_X2_bestFrom_0, gFi G, if_true, true_and, nI_add, hz2, hz3, ixI (show a + 1 < 2147483648 by omega), ixI (show gone < 2147483648 by omega), g2, hn gone hq]
  have e9 : bsS P r (k + 1) gone = mxS (gnS P r a) (bsS P r k) gone 5 := by
    show mxS (gnS P r (6 - k)) (bsS P r k) gone 5 = _
    rw [show 6 - k = a by omega]
  rw [e9]
  exact key 5 0 (by omega)
/-- the table as it stands from a load on -/
def BA (I : mI) (P : mP) (r : mW) (k : Nat) : Prop := ∀ j, j < k → ∀ s, s < 32 → I (69 + (7 - j)) s = bsS P r j s
theorem s_weigh (d : Nat) {S : mS} {I : mI} {L : mJ} {P : mP} {r : mW} (G : Gd S) (hv : PV P) (hr : RV P r) (h : CC S I P r) : ∃ J, evM zcod (d + 7) 93 [.ref 59] (S, I, L) = some (none, (S, J, L)) ∧ GA J P r 7 0 ∧ BA J P r 8 ∧ Fi jk I J := by
  obtain ⟨J0, e0, hg0, f0⟩ := s_gains d (L := L) G hv hr h
  have zero : ∀ n s, n + s = 32 → ∀ I, GA I P r 7 0 → (∀ t, t < s → I 76 t = nI 0) → ∃ J, evk zcod none (d + 6) zc_X2_weigh 60 [(0, .ref 59), (1, .int (nI s))] [] (S, I, L) = evk zcod none (d + 6) zc_X2_weigh 82 [(0, .ref 59)] [] (S, J, L) ∧ GA J P r 7 0 ∧ BA J P r 1 ∧ Fi jk I J := by
    intro n
    induction n with
    | zero =>
      intro s hs I hg ht
      refine ⟨I, ?_, hg, fun j hj s q => ?_, Fi.rf⟩
      · rw [B_X2_weigh_60, if_pos (nI_le (by omega) (by omega))]
      · rw [show j = 0 by omega]
        exact ht s (by omega)
    | succ n ih =>
      intro s hs I hg ht
      have g2 := gF69 G (a := 7) (by omega)
      have hz : zin (nI 7) 8 = True := ixT (by omega) (by omega)
      have f0 : Fi jk I (uI I 76 s (nI 0)) := Fi.u Fi.rf (by unfold jk; omega)
      obtain ⟨J, e, j1, j2, f⟩ := ih (s + 1) (by omega) (uI I 76 s (nI 0)) (fun x y q1 q2 => (uI_off (by omega)).trans (hg x y q1 q2)) (fun t q => by
        by_cases w : t = s
        · rw [w]; exact uI_same _ _ _ _
        · rw [uI_ix w]; exact ht t (by omega))
      refine ⟨J, ?_, j1, j2, f0.tr f⟩
      rw [B_X2_weigh_60, if_neg (nI_ge (by omega) (by omega))]
      simp only [gFi G, if_true, true_and, hz, ixI (show 7 < 2147483648 by omega), g2]
      rw [if_pos (ixP (by omega) (by omega)), ixI (by omega), nI_add]
      exact e
  have row : ∀ k a, a + k = 6 → ∀ n s, n + s = 32 → ∀ I, GA I P r 7 0 → BA I P r (k + 1) → (∀ t, t < s → I (69 + a) t = bsS P r (k + 1) t) → ∃ J, evk zcod none (d + 6) zc_X2_weigh 91 [(0, .ref 59), (1, .int (nI a)), (2, .int (nI s))] [] (S, I, L) = evk zcod none (d + 6) zc_X2_weigh 117 [(0, .ref 59), (1, .int (nI a))] [] (S, J, L) ∧ GA J P r 7 0 ∧ BA J P r (k + 2) ∧ Fi jk I J := by
    intro k a ha n
    induction n with
    | zero =>
      intro s hs I hg hb ht
      refine ⟨I, ?_, hg, fun j hj s q => ?_, Fi.rf⟩
      · rw [B_X2_weigh_91, if_pos (nI_le (by omega) (by omega))]
      · by_cases w : j = k + 1
        · rw [w, show 69 + (7 - (k + 1)) = 69 + a by omega]
          exact ht s (by omega)
        · exact hb j (by omega) s q
    | succ n ih =>
      intro s hs I hg hb ht
      have g2 := gF69 G (a := a) (by omega)
      have hz : zin (nI a) 8 = True := ixT (by omega) (by omega)
      have f0 : Fi jk I (uI I (69 + a) s (bsS P r (k + 1) s)) := Fi.u Fi.rf (by unfold jk; omega)
      obtain ⟨J, e, j1, j2, f⟩ := ih (s + 1) (by omega) (uI I (69 + a) s (bsS P r (k + 1) s)) (fun x y q1 q2 => (uI_off (by omega)).trans (hg x y q1 q2)) (fun j hj t q => (uI_off (by omega)).trans (hb j hj t q)) (fun t q => by
        by_cases w : t = s
        · rw [w]; exact uI_same _ _ _ _
        · rw [uI_ix w]; exact ht t (by omega))
      refine ⟨J, ?_, j1, j2, f0.tr f⟩
      rw [B_X2_weigh_91, if_neg (nI_ge (by omega) (by omega))]
      have bf := s_bestFrom (d + 4) (L := L) G hg ha (show s < 32 by omega) (fun t q => by
        have := hb k (by omega) t q
        rw [show 69 + (7 - k) = 69 + (a + 1) by omega] at this
        exact this)
      simp only [gFi G, if_true, true_and, hz, ixI (show a < 2147483648 by omega), g2, bf, bI_eq]
      rw [if_pos (ixP (by omega) (by omega)), ixI (by omega), nI_add]
      exact e
  have rows : ∀ a k, a + k = 6 → ∀ I, GA I P r 7 0 → BA I P r (k + 1) → ∃ J, evk zcod none (d + 6) zc_X2_weigh 85 [(0, .ref 59), (1, .int (nI a))] [] (S, I, L) = some (none, (S, J, L)) ∧ GA J P r 7 0 ∧ BA J P r 8 ∧ Fi jk I J := by
    intro a
    induction a with
    | zero =>
      intro k hk I hg hb
      obtain ⟨J, e, j1, j2, f⟩ := row k 0 (by omega) 32 0 (by omega) I hg hb (fun t q => absurd q (Nat.not_lt_zero t))
      rw [show k + 2 = 8 by omega] at j2
      refine ⟨J, ?_, j1, j2, f⟩
      rw [B_X2_weigh_85, if_neg (by decide +kernel), e, B_X2_weigh_117, B_X2_weigh_85, if_pos (by decide +kernel), B_X2_weigh_123]
    | succ a ih =>
      intro k hk I hg hb
      obtain ⟨J, e, j1, j2, f⟩ := row k (a + 1) (by omega) 32 0 (by omega) I hg hb (fun t q => absurd q (Nat.not_lt_zero t))
      obtain ⟨K, eK, k1, k2, fK⟩ := ih (k + 1) (by omega) J j1 j2
      refine ⟨K, ?_, k1, k2, f.tr fK⟩
      rw [B_X2_weigh_85, if_neg (n_pos (n := a + 1) (by omega)), e, B_X2_weigh_117, pk_m1]
      exact eK
  obtain ⟨J1, e1, hg1, hb1, f1⟩ := zero 32 0 (by omega) J0 hg0 (fun t q => absurd q (Nat.not_lt_zero t))
  obtain ⟨J2, e2, hg2, hb2, f2⟩ := rows 6 0 (by omega) J1 hg1 hb1
  refine ⟨J2, ?_, hg2, hb2, (f0.tr f1).tr f2⟩
  rw [E_X2_weigh, B_X2_weigh_0, e0, B_X2_weigh_58, e1, B_X2_weigh_82, e2]
