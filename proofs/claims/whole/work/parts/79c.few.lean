/-! the fewest hooks by which none is missed: class side -/
theorem goS_rim {P : mP} {r : mW} {st sz w pl hour : Int32} : ∀ {n i : Nat} {x hi : Int32}, ((goS P r st sz w pl hour n i x hi).2.1 = nI 1 ∨ (goS P r st sz w pl hour n i x hi).2.1 = nI 2) → (0 ≤ (goS P r st sz w pl hour n i x hi).2.2.2.1.toInt ∧ (goS P r st sz w pl hour n i x hi).2.2.2.1.toInt ≤ 19) ∧ ((goS P r st sz w pl hour n i x hi).2.1 = nI 2 → nhA P r (goS P r st sz w pl hour n i x hi).2.2.2.1 allF = -2)
  | 0, i, x, hi => fun h => by
    rcases h with h | h
    · have h : nI 0 = nI 1 := h
      exact absurd h (by decide +kernel)
    · have h : nI 0 = nI 2 := h
      exact absurd h (by decide +kernel)
  | n + 1, i, x, hi => by
    unfold goS
    split
    · intro h
      refine ⟨hld_19 _, fun h2 => ?_⟩
      by_cases c : nhA P r (hld (x + pl + lawW P (hour + nI i) (nI 1) st hi x) (nI 0) (nI 19)) allF = -2
      · exact c
      · exfalso
        simp only [if_neg c] at h2
        exact absurd h2 (by decide +kernel)
    · split
      · intro h
        rcases h with h | h
        · have h : nI 3 = nI 1 := h
          exact absurd h (by decide +kernel)
        · have h : nI 3 = nI 2 := h
          exact absurd h (by decide +kernel)
      · exact goS_rim
theorem nh_no {P : mP} {r : mW} {x : Int32} : ∀ {n : Nat}, n < 100 → nh P r x allF n = -2 → ∀ h, h < n → sta P (40 + h) < hoff (r (50 + h)) x
  | 0, _, _, h, q => absurd q (Nat.not_lt_zero h)
  | n + 1, hn, e, h, q => by
    unfold nh at e
    by_cases c : sta P (40 + n) < hoff (r (50 + n)) x ∨ allF n = false
    · rw [if_pos c] at e
      by_cases w : h = n
      · subst w
        rcases c with c | c
        · exact c
        · cases c
      · exact nh_no (by omega) e h (by omega)
    · rw [if_neg c] at e
      by_cases c2 : nh P r x allF n < 0 ∨ hoff (r (50 + n)) x < hoff (r (50 + (nh P r x allF n).toInt.toNat)) x
      · rw [if_pos c2] at e
        exfalso
        have : (nI n).toInt = -2 := by rw [e]; exact t_m2
        rw [t_nI (by omega)] at this
        omega
      · rw [if_neg c2] at e
        rw [e] at c2
        exact absurd (Or.inl m2_neg) c2
/-- the hooks that reach a place -/
def rcP (P : mP) (r : mW) (x : Int32) (h : Nat) : Bool := !decide (sta P (40 + h) < hoff (r (50 + h)) x)
def hrB (P : mP) (r : mW) (x : Int32) : Nat := bs (rcP P r x) (nHo P)
def fhB (P : mP) (r : mW) (a b : Nat) : Nat := if (flyS P r a b (r (40 + b)) (nI 0)).2.1 = nI 1 then hrB P r (flyS P r a b (r (40 + b)) (nI 0)).2.2.2.1 else 0
theorem or32 : ∀ x, x < 32 → ∀ y, y < 32 → nI x ||| nI y = nI (x ||| y) ∧ x ||| y < 32 := by decide +kernel
theorem and32 : ∀ x, x < 32 → ∀ y, y < 32 → (nI x &&& nI y = nI 0 ↔ x &&& y = 0) := by decide +kernel
theorem bit5 : ∀ h, h < 5 → nI 1 <<< (nI h &&& nI 31) = nI (2 ^ h) ∧ 2 ^ h < 32 := by decide +kernel
theorem hrB_lt {P : mP} {r : mW} {x : Int32} (hv : PV P) : hrB P r x < 32 := bs_le _ hv.2.2.1
theorem fhB_lt {P : mP} {r : mW} {a b : Nat} (hv : PV P) : fhB P r a b < 32 := by
  unfold fhB
  split
  · exact hrB_lt hv
  · omega
theorem hrB_0 {P : mP} {r : mW} {x : Int32} (hv : PV P) (h : nhA P r x allF = -2) : hrB P r x = 0 := by
  have : ∀ n, n ≤ nHo P → bs (rcP P r x) n = 0 := by
    intro n
    induction n with
    | zero => exact fun _ => rfl
    | succ n ih =>
      intro hn
      have e : rcP P r x n = false := by
        unfold rcP
        rw [decide_eq_true (nh_no (by have := hv.2.2.1; omega) h n (by omega))]
        rfl
      unfold bs
      rw [ih (by omega), e]
      rfl
  exact this _ (Nat.le_refl _)
theorem s_hooksReaching (d : Nat) {S : mS} {I : mI} {L : mJ} {P : mP} {r : mW} (G : Gd S) (hv : PV P) (hr : HX P r) (h : CS I 39 P r) {x : Int32} (hx : 0 ≤ x.toInt ∧ x.toInt ≤ 19) : evM zcod (d + 2) 31 [.ref 39, .int x] (S, I, L) = some (some (.int (nI (hrB P r x))), (S, I, L)) := by
  have g := gSt G is39
  have hT := h.th G is39 hv
  have v1 := hv.2.2.1
  obtain ⟨u, hu, rfl⟩ := in20 hx
  have key : ∀ k i, i + k = nHo P → evk zcod none (d + 1) zc_X8_hooksReaching 4 [(0, .ref 39), (1, .int (nI u)), (2, .int (nI (bs (rcP P r (nI u)) i))), (3, .int (nI i))] [] (S, I, L) = some (some (.int (nI (hrB P r (nI u)))), (S, I, L)) := by
    intro k
    induction k with
    | zero =>
      intro i hi
      simp only [B_X8_hooksReaching_4, B_X8_hooksReaching_53, g, s_size d hT, bI_eq, if_true]
      rw [if_pos (nI_le (by omega) (by omega))]
      unfold hrB
      rw [show nHo P = i from by omega]
    | succ k ih =>
      intro i hi
      have hiN : i < nHo P := by omega
      obtain ⟨w, hw, ew⟩ := in20 (hr i hiN)
      obtain ⟨rc, hrc, erc⟩ := i_of2 (n := 6) (hv.2.2.2 i hiN).1 (by have := (hv.2.2.2 i hiN).2.1; omega)
      obtain ⟨eo, ho⟩ := abs_off w hw u hu
      have ec : (sta P (40 + i) < hoff (r (50 + i)) (nI u)) ↔ rc < offN w u := by
        rw [erc, ew, hoff_nI (by omega) (by omega), nI_ltI (by omega) (by omega)]
      rw [B_X8_hooksReaching_4]
      simp only [g, s_size d hT, bI_eq, if_true]
      rw [if_neg (nI_ge hiN (by omega)), s_atN d hT (a := i) (b := 0) hiN (by omega), (h.ho hiN).1, ew]
      simp only [bI_eq, if_true, s_abs, eo, g]
      rw [s_atN d hT (a := i) (b := 1) hiN (by omega), (h.ho hiN).2.1, erc]
      simp only [bI_eq, if_true, B_X8_hooksReaching_41, B_X8_hooksReaching_47, nI_add]
      by_cases c : rc < offN w u
      · rw [if_pos (nI_lt c (by omega)), bs_no (P := rcP P r (nI u)) (n := i) (by unfold rcP; rw [decide_eq_true (ec.mpr c)]; exact fun q => by cases q)]
        exact ih (i + 1) (by omega)
      · rw [if_neg (nI_nlt (by omega) (by omega)), bs_or (P := rcP P r (nI u)) (n := i) (by omega) (by unfold rcP; rw [decide_eq_false (fun q => c (ec.mp q))]; rfl)]
        exact ih (i + 1) (by omega)
  rw [E_X8_hooksReaching, B_X8_hooksReaching_0]
  exact key (nHo P) 0 (by omega)
theorem s_hooksFor (d : Nat) {S : mS} {I : mI} {L : mJ} {P : mP} {r : mW} (G : Gd S) (hv : PV P) (hr : RV P r) (h : CC S I P r) {a b : Nat} (ha : a < nLo P) (hb : b < nSi P) : ∃ J, evM zcod (d + 6) 101 [.ref 59, .int (nI a), .int (nI b)] (S, I, L) = some (some (.int (nI (fhB P r a b))), (S, J, L)) ∧ Fi flA I J := by
  obtain ⟨J, e, f, j3, j4, j5, j6, j7⟩ := s_fly d (L := L) G hv hr h ha hb (r (40 + b)) (nI 0)
  have hJ := h.fi (fl_jk f)
  refine ⟨J, ?_, f⟩
  rw [E_X2_hooksFor]
  simp only [B_X2_hooksFor_0, gFi G, gSt G is39, gCo G, if_true, s_atN _ (h.1.ts G is39 hv) hb (show 3 < 4 by omega), (h.1.si hb).2.2.2, bI_eq, e, bV_eq, c_isAtRim _ G j4]
  unfold fhB
  have rim := goS_rim (P := P) (r := r) (st := nI (soN P r (nI 2))) (sz := sta P (30 + b)) (w := sta P (10 + a)) (pl := r (40 + b)) (hour := r 55 + nI 0) (n := 48) (i := 0) (x := r a) (hi := nI 0)
  change (((flyS P r a b (r (40 + b)) (nI 0)).2.1 = nI 1 ∨ (flyS P r a b (r (40 + b)) (nI 0)).2.1 = nI 2) → (0 ≤ (flyS P r a b (r (40 + b)) (nI 0)).2.2.2.1.toInt ∧ (flyS P r a b (r (40 + b)) (nI 0)).2.2.2.1.toInt ≤ 19) ∧ ((flyS P r a b (r (40 + b)) (nI 0)).2.1 = nI 2 → nhA P r (flyS P r a b (r (40 + b)) (nI 0)).2.2.2.1 allF = -2)) at rim
  by_cases c : (flyS P r a b (r (40 + b)) (nI 0)).2.1 = nI 1 ∨ (flyS P r a b (r (40 + b)) (nI 0)).2.1 = nI 2
  · obtain ⟨x1, x2⟩ := rim c
    rw [if_pos c]
    simp only [n10, if_false, gFi G, gCo G, gSt G is39, if_true, j6, s_hooksReaching _ G hv hr.2.2 hJ.1 x1, bI_eq, B_X2_hooksFor_50]
    rcases c with c | c
    · rw [if_pos c]
    · rw [if_neg (by rw [c]; decide +kernel), hrB_0 hv (x2 c)]
  · rw [if_neg c, if_neg (fun q => c (Or.inl q)), if_pos rfl, B_X2_hooksFor_49, B_X2_hooksFor_50]
/-- the hooks of which a load wants one: by silks -/
def ndS (P : mP) (r : mW) (a : Nat) : Nat → Nat
  | 0 => 0
  | b + 1 => ndS P r a b ||| (if rdy P r (nI a) (nI b) = true then fhB P r a b else 0)
theorem ndS_s {P : mP} {r : mW} {a b : Nat} : ndS P r a (b + 1) = ndS P r a b ||| (if rdy P r (nI a) (nI b) = true then fhB P r a b else 0) := rfl
theorem ndS_lt {P : mP} {r : mW} (hv : PV P) {a : Nat} : ∀ n, ndS P r a n < 32
  | 0 => by unfold ndS; omega
  | b + 1 => by
    unfold ndS
    refine (or32 _ (ndS_lt hv b) _ ?_).2
    split
    · exact fhB_lt hv
    · omega
def ndN (P : mP) (r : mW) (a : Nat) : Nat := ndS P r a 5
def srv (P : mP) (r : mW) (m : Nat) : Prop := ∀ a, a < 7 → ndN P r a = 0 ∨ ¬ ndN P r a &&& m = 0
theorem s_findHooks (d : Nat) {S : mS} {L : mJ} {P : mP} {r : mW} (G : Gd S) (hv : PV P) (hr : RV P r) : ∀ {I : mI}, CC S I P r → ∃ J, evM zcod (d + 7) 100 [.ref 59] (S, I, L) = some (none, (S, J, L)) ∧ (∀ a, a < 7 → J 77 a = nI (ndN P r a)) ∧ Fi jk I J := by
  have k77 := G.k 77 (k := 20) (n := 7) (by decide +kernel)
  have inner : ∀ a, a < 7 → ∀ n b, n + b = 5 → ∀ I, CC S I P r → I 77 a = nI (ndS P r a b) → ∃ J, evk zcod none (d + 6) zc_X2_findHooks 17 [(0, .ref 59), (1, .int (nI a)), (2, .int (nI b))] [] (S, I, L) = evk zcod none (d + 6) zc_X2_findHooks 55 [(0, .ref 59), (1, .int (nI a))] [] (S, J, L) ∧ J 77 a = nI (ndN P r a) ∧ (∀ j, j ≠ a → J 77 j = I 77 j) ∧ Fi jk I J := by
    intro a ha n
    induction n with
    | zero =>
      intro b hb I h h7
      refine ⟨I, ?_, ?_, fun _ _ => rfl, Fi.rf⟩
      · rw [B_X2_findHooks_17, if_pos (nI_le (by omega) (by omega))]
      · rw [h7, show b = 5 by omega]
        rfl
    | succ n ih =>
      intro b hb I h h7
      rw [B_X2_findHooks_17, if_neg (nI_ge (by omega) (by omega))]
      simp only [gFi G, gSt G is39, if_true, s_isReady _ G is39 hv h.1, bI_eq, k77, true_and]
      have hz : zin (nI a) 7 = True := ixT ha (by omega)
      have hi : zix (nI a) = a := ixI (by omega)
      cases c : rdy P r (nI a) (nI b)
      · simp only [Bool.false_eq_true, if_false, if_true, B_X2_findHooks_49, nI_add]
        refine ih (b + 1) (by omega) I h ?_
        rw [h7]
        rw [ndS_s, c, if_neg (by decide), Nat.or_zero]
      · obtain ⟨a', b', ha', hb', ea, eb⟩ := rdy_in c
        have v := hv
        obtain ⟨v1, v2, -⟩ := v
        have : a = a' := (nI_eq (by omega) (by omega)).mp ea
        subst this
        have : b = b' := (nI_eq (by omega) (by omega)).mp eb
        subst this
        obtain ⟨J, e, f⟩ := s_hooksFor d (L := L) G hv hr h ha' hb'
        have e7 : nI (ndS P r a b) ||| nI (fhB P r a b) = nI (ndS P r a (b + 1)) := by
          rw [(or32 _ (ndS_lt hv b) _ (fhB_lt hv)).1]
          rw [ndS_s, c, if_pos rfl]
        have fU : Fi jk I (uI J 77 a (nI (ndS P r a (b + 1)))) := Fi.u (fl_jk f) (by unfold jk; omega)
        obtain ⟨K, eK, k1, k2, fK⟩ := ih (b + 1) (by omega) (uI J 77 a (nI (ndS P r a (b + 1)))) (h.fi fU) (uI_same _ _ _ _)
        refine ⟨K, ?_, k1, fun j q => (k2 j q).trans ((uI_ix q).trans (f 77 j (by unfold flA; omega))), fU.tr fK⟩
        simp only [if_true, n10, if_false, hz, hi, e, bI_eq, k77, true_and, h7, e7, B_X2_findHooks_49, nI_add]
        exact eK
  have outer : ∀ n a, n + a = 7 → ∀ I, CC S I P r → (∀ j, j < a → I 77 j = nI (ndN P r j)) → ∃ J, evk zcod none (d + 6) zc_X2_findHooks 2 [(0, .ref 59), (1, .int (nI a))] [] (S, I, L) = some (none, (S, J, L)) ∧ (∀ a, a < 7 → J 77 a = nI (ndN P r a)) ∧ Fi jk I J := by
    intro n
    induction n with
    | zero =>
      intro a ha I h h7
      refine ⟨I, ?_, fun j hj => h7 j (by omega), Fi.rf⟩
      rw [B_X2_findHooks_2, if_pos (nI_le (by omega) (by omega)), B_X2_findHooks_61]
    | succ n ih =>
      intro a ha I h h7
      have f0 : Fi jk I (uI I 77 a (nI 0)) := Fi.u Fi.rf (by unfold jk; omega)
      obtain ⟨J, e, j1, j2, f⟩ := inner a (by omega) 5 0 (by omega) (uI I 77 a (nI 0)) (h.fi f0) (uI_same _ _ _ _)
      obtain ⟨K, eK, k1, fK⟩ := ih (a + 1) (by omega) J ((h.fi f0).fi f) (fun j hj => by
        by_cases w : j = a
        · rw [w]; exact j1
        · rw [j2 j w, uI_ix w]; exact h7 j (by omega))
      refine ⟨K, ?_, k1, (f0.tr f).tr fK⟩
      rw [B_X2_findHooks_2, if_neg (nI_ge (by omega) (by omega))]
      simp only [gFi G, if_true, k77, true_and]
      rw [if_pos (ixP (by omega) (by omega)), ixI (by omega), e, B_X2_findHooks_55, nI_add]
      exact eK
  intro I h
  rw [E_X2_findHooks, B_X2_findHooks_0]
  exact outer 7 0 (by omega) I h (fun j hj => absurd hj (Nat.not_lt_zero j))
