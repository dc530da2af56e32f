/-! Sky and Course -/
theorem n24 : (nI 24 = nI 0) = False := eq_false (by decide +kernel)
def Begun (I : mI) (h u st : Int32) : Prop := I 54 0 = zrem h (nI 24) ∧ I 54 1 = h / nI 24 ∧ I 54 7 = u ∧ I 54 8 = st
def skB (I : mI) (h u st : Int32) : mI := uI (uI (uI (uI I 54 0 (zrem h (nI 24))) 54 1 (h / nI 24)) 54 7 u) 54 8 st
def skL (I : mI) (sz w hi ac pr : Int32) : mI := uI (uI (uI (uI (uI I 54 2 sz) 54 3 w) 54 4 hi) 54 5 ac) 54 6 pr
theorem skB_b (I : mI) (h u st : Int32) : Begun (skB I h u st) h u st := by
  refine ⟨?_, ?_, ?_, ?_⟩ <;> simp [skB, uI_at]
theorem skB_f (I : mI) (h u st : Int32) : Fi (fun a _ => a = 54) I (skB I h u st) := Fi.u (Fi.u (Fi.u (Fi.u Fi.rf rfl) rfl) rfl) rfl
theorem skL_f (I : mI) (sz w hi ac pr : Int32) : Fi (fun a j => a = 54 ∧ 2 ≤ j ∧ j ≤ 6) I (skL I sz w hi ac pr) := Fi.u (Fi.u (Fi.u (Fi.u (Fi.u Fi.rf ⟨rfl, by omega, by omega⟩) ⟨rfl, by omega, by omega⟩) ⟨rfl, by omega, by omega⟩) ⟨rfl, by omega, by omega⟩) ⟨rfl, by omega, by omega⟩
theorem skL_b {I : mI} {h u st sz w hi ac pr : Int32} (B : Begun I h u st) : Begun (skL I sz w hi ac pr) h u st := by
  obtain ⟨b1, b2, b3, b4⟩ := B
  refine ⟨?_, ?_, ?_, ?_⟩ <;> simp [skL, uI_at, b1, b2, b3, b4]
theorem skL_v {I : mI} {h u st sz w hi ac pr : Int32} (B : Begun I h u st) : n9 (skL I sz w hi ac pr 54) = vv h u st sz w hi ac pr := by
  obtain ⟨b1, b2, b3, b4⟩ := B
  refine n9_vv fun k hk => ?_
  match k, hk with
  | 0, _ => simp [skL, uI_at, b1, vv]
  | 1, _ => simp [skL, uI_at, b2, vv]
  | 2, _ => simp [skL, uI_at, vv]
  | 3, _ => simp [skL, uI_at, vv]
  | 4, _ => simp [skL, uI_at, vv]
  | 5, _ => simp [skL, uI_at, vv]
  | 6, _ => simp [skL, uI_at, vv]
  | 7, _ => simp [skL, uI_at, b3, vv]
  | 8, _ => simp [skL, uI_at, b4, vv]
  | n + 9, q => omega
theorem s_begin (d : Nat) {S : mS} {I : mI} {L : mJ} (G : Gd S) (h u st : Int32) : evM zcod (d + 1) 69 [.ref 53, .int h, .int u, .int st] (S, I, L) = some (none, (S, skB I h u st, L)) := by
  rw [E_X7_begin]
  simp only [B_X7_begin_0, B_X7_begin_36, gSky G, if_true, n24, if_false, true_and, zn9, zx]
  rfl
theorem s_look (d : Nat) {S : mS} {I : mI} {L : mJ} (G : Gd S) (sz w hi ac pr : Int32) : evM zcod (d + 1) 74 [.ref 53, .int sz, .int w, .int hi, .int ac, .int pr] (S, I, L) = some (none, (S, skL I sz w hi ac pr, L)) := by
  rw [E_X7_look]
  simp only [B_X7_look_0, B_X7_look_29, gSky G, if_true, true_and, zn9, zx]
  rfl
def skA (a j : Nat) : Prop := a = 54 ∧ 2 ≤ j ∧ j ≤ 6 ∨ a = 55
theorem Begun.fi {I J : mI} {h u st : Int32} (B : Begun I h u st) (f : Fi skA I J) : Begun J h u st := by
  obtain ⟨b1, b2, b3, b4⟩ := B
  have : ∀ j, (j < 2 ∨ 6 < j) → J 54 j = I 54 j := fun j q => f 54 j (by unfold skA; omega)
  exact ⟨(this 0 (by omega)).trans b1, (this 1 (by omega)).trans b2, (this 7 (by omega)).trans b3, (this 8 (by omega)).trans b4⟩
theorem LawC.fi {S : mS} {P : mP} {I J : mI} (C : LawC S P I) (e1 : J 17 = I 17) (e2 : J 18 = I 18) (e3 : J 19 = I 19) : LawC S P J := fun k hk K d L q1 q2 q3 => C k hk K d L (q1.trans e1) (q2.trans e2) (q3.trans e3)
theorem le_m99 : (-9 : Int32) ≤ nI 9 := by decide +kernel
theorem le_m33 : (-3 : Int32) ≤ nI 3 := by decide +kernel
theorem le_099 : nI 0 ≤ nI 99 := by decide +kernel
theorem le_019 : nI 0 ≤ nI 19 := by decide +kernel
theorem s_law (d : Nat) {S : mS} {I : mI} {L : mJ} {P : mP} (G : Gd S) (C : LawC S P I) {k : Nat} (hk : k < 4) {h u st sz w hi ac pr : Int32} (B : Begun I h u st) : ∃ J, evM zcod (d + 2) 75 [.ref 53, .int (nI k)] (S, skL I sz w hi ac pr, L) = some (some (.int (lawf P k (vv h u st sz w hi ac pr))), (S, J, L)) ∧ Fi skA I J := by
  have f := skL_f I sz w hi ac pr
  obtain ⟨J, e, fJ⟩ := C k hk (skL I sz w hi ac pr) d L (f.row 17 fun j => by omega) (f.row 18 fun j => by omega) (f.row 19 fun j => by omega)
  rw [skL_v B] at e
  exact ⟨J, e, (f.up fun a j q => Or.inl q).tr (fJ.up fun a j q => Or.inr q)⟩
theorem s_lift (d : Nat) {S : mS} {I : mI} {L : mJ} {P : mP} (G : Gd S) (C : LawC S P I) {h u st : Int32} (B : Begun I h u st) (sz w hi ac : Int32) : ∃ J, evM zcod (d + 3) 70 [.ref 53, .int sz, .int w, .int hi, .int ac] (S, I, L) = some (some (.int (lawL P h u st sz w hi ac)), (S, J, L)) ∧ Fi skA I J := by
  obtain ⟨J, e, f⟩ := s_law d (L := L) G C (k := 0) (by omega) (sz := sz) (w := w) (hi := hi) (ac := ac) (pr := nI 0) B
  refine ⟨J, ?_, f⟩
  rw [E_X7_lift]
  simp only [B_X7_lift_0, gSky G, if_true, s_look _ G, bV_eq, e, bI_eq, s_kept _ _ _ _ le_m99]
  rfl
theorem s_wind (d : Nat) {S : mS} {I : mI} {L : mJ} {P : mP} (G : Gd S) (C : LawC S P I) {h u st : Int32} (B : Begun I h u st) (hi ac : Int32) : ∃ J, evM zcod (d + 3) 71 [.ref 53, .int hi, .int ac] (S, I, L) = some (some (.int (lawW P h u st hi ac)), (S, J, L)) ∧ Fi skA I J := by
  obtain ⟨J, e, f⟩ := s_law d (L := L) G C (k := 1) (by omega) (sz := nI 0) (w := nI 0) (hi := hi) (ac := ac) (pr := nI 0) B
  refine ⟨J, ?_, f⟩
  rw [E_X7_wind]
  simp only [B_X7_wind_0, gSky G, if_true, s_look _ G, bV_eq, e, bI_eq, s_kept _ _ _ _ le_m33]
  rfl
theorem s_ties (d : Nat) {S : mS} {I : mI} {L : mJ} {P : mP} (G : Gd S) (C : LawC S P I) {h u st : Int32} (B : Begun I h u st) (sz w : Int32) : ∃ J, evM zcod (d + 3) 72 [.ref 53, .int sz, .int w] (S, I, L) = some (some (.int (lawT P h u st sz w)), (S, J, L)) ∧ Fi skA I J := by
  obtain ⟨J, e, f⟩ := s_law d (L := L) G C (k := 2) (by omega) (sz := sz) (w := w) (hi := nI 0) (ac := nI 0) (pr := nI 0) B
  refine ⟨J, ?_, f⟩
  rw [E_X7_ties]
  simp only [B_X7_ties_0, gSky G, if_true, s_look _ G, bV_eq, e, bI_eq, s_kept _ _ _ _ le_099]
  rfl
theorem s_pays (d : Nat) {S : mS} {I : mI} {L : mJ} {P : mP} (G : Gd S) (C : LawC S P I) {h u st : Int32} (B : Begun I h u st) (pr w : Int32) : ∃ J, evM zcod (d + 3) 73 [.ref 53, .int pr, .int w] (S, I, L) = some (some (.int (lawP P h u st pr w)), (S, J, L)) ∧ Fi skA I J := by
  obtain ⟨J, e, f⟩ := s_law d (L := L) G C (k := 3) (by omega) (sz := nI 0) (w := w) (hi := nI 0) (ac := nI 0) (pr := pr) B
  refine ⟨J, ?_, f⟩
  rw [E_X7_pays]
  simp only [B_X7_pays_0, gSky G, if_true, s_look _ G, bV_eq, e, bI_eq, s_kept _ _ _ _ le_099]
  rfl
/-- the widths of a State's Things, whatever it holds: they never change -/
def CC (S : mS) (I : mI) (P : mP) (r : mW) : Prop := CS I 39 P r ∧ LawC S P I ∧ I 9 2 = sta P 0 ∧ I 9 3 = sta P 1 ∧ I 9 4 = sta P 2 ∧ Wd I 46
/-- places that hold nothing that lasts -/
def jk (a j : Nat) : Prop := (46 ≤ a ∧ a ≤ 77) ∧ ¬ ((a = 47 ∨ a = 49 ∨ a = 51) ∧ j < 2)
theorem CC.fi {S : mS} {I J : mI} {P : mP} {r : mW} (h : CC S I P r) (f : Fi jk I J) : CC S J P r := by
  obtain ⟨h1, h2, h3, h4, h5, w1, w2, w3, w4, w5, w6⟩ := h
  have e : ∀ a, a < 46 → J a = I a := fun a q => f.row a fun j => by unfold jk; omega
  refine ⟨h1.congI fun x j p q => ?_, h2.fi (e 17 (by omega)) (e 18 (by omega)) (e 19 (by omega)), ?_, ?_, ?_, ?_, ?_, ?_, ?_, ?_, ?_⟩
  · rw [e x (by omega)]
  · rw [e 9 (by omega)]; exact h3
  · rw [e 9 (by omega)]; exact h4
  · rw [e 9 (by omega)]; exact h5
  · exact (f 47 0 (by unfold jk; omega)).trans w1
  · exact (f 47 1 (by unfold jk; omega)).trans w2
  · exact (f 49 0 (by unfold jk; omega)).trans w3
  · exact (f 49 1 (by unfold jk; omega)).trans w4
  · exact (f 51 0 (by unfold jk; omega)).trans w5
  · exact (f 51 1 (by unfold jk; omega)).trans w6
theorem sk_jk {I J : mI} (f : Fi skA I J) : Fi jk I J := f.up fun a j q => by unfold skA at q; unfold jk; omega
/-- all hooks have a free hand -/
def allF (_ : Nat) : Bool := true
/-- a flight alone: hours, how, by which hook, where; at last the place of its last hour -/
def goS (P : mP) (r : mW) (st sz w pl hour : Int32) : Nat → Nat → Int32 → Int32 → Int32 × Int32 × Int32 × Int32 × Nat
  | 0, i, x, _ => (nI 0, nI 0, -2, x, i)
  | n + 1, i, x, hi =>
    if sta P 0 ≤ hi + lawL P (hour + nI i) (nI 1) st sz w hi x then (nI (i + 1), (if nhA P r (hld (x + pl + lawW P (hour + nI i) (nI 1) st hi x) (nI 0) (nI 19)) allF = -2 then nI 2 else nI 1), nhA P r (hld (x + pl + lawW P (hour + nI i) (nI 1) st hi x) (nI 0) (nI 19)) allF, hld (x + pl + lawW P (hour + nI i) (nI 1) st hi x) (nI 0) (nI 19), i)
    else if hi + lawL P (hour + nI i) (nI 1) st sz w hi x ≤ nI 0 then (nI (i + 1), nI 3, -2, hld (x + pl + lawW P (hour + nI i) (nI 1) st hi x) (nI 0) (nI 19), i)
    else goS P r st sz w pl hour n (i + 1) (hld (x + pl + lawW P (hour + nI i) (nI 1) st hi x) (nI 0) (nI 19)) (hi + lawL P (hour + nI i) (nI 1) st sz w hi x)
theorem hld_19 (v : Int32) : 0 ≤ (hld v (nI 0) (nI 19)).toInt ∧ (hld v (nI 0) (nI 19)).toInt ≤ 19 := by
  have h := hld_in (v := v) le_019
  rw [i_le, i_le, t_nI (by omega), t_nI (by omega)] at h
  omega
theorem z_free (k : Nat) (hk : k < 8) : ((nI 0) >>> (nI k &&& nI 31)) &&& nI 1 = if allF k = true then nI 0 else nI 1 := by
  have : ∀ k, k < 8 → ((nI 0) >>> (nI k &&& nI 31)) &&& nI 1 = nI 0 := by decide +kernel
  rw [this k hk]
  rfl
theorem is39 : isSt 39 = true := by decide +kernel
theorem is46 : isSt 46 = true := by decide +kernel
def coA (a j : Nat) : Prop := a = 54 ∨ a = 55 ∨ a = 58 ∧ j ≠ 7
theorem s_endAt (d : Nat) {S : mS} {I : mI} {L : mJ} {P : mP} {r : mW} (G : Gd S) (hv : PV P) (hr : RV P r) (h : CC S I P r) {x hi bh : Int32} (hx : I 58 6 = x) (hx19 : 0 ≤ x.toInt ∧ x.toInt ≤ 19) : evM zcod (d + 3) 91 [.ref 58, .int hi, .int bh] (S, I, L) = some (none, (S, (if sta P 0 ≤ hi then uI (uI (uI I 58 5 (nhA P r x allF)) 58 4 (if nhA P r x allF = -2 then nI 2 else nI 1)) 58 3 bh else if hi ≤ nI 0 then uI (uI I 58 4 (nI 3)) 58 3 bh else I), L)) := by
  have v := hv.2.2.1
  have sn := s_nearest d (L := L) G is39 hv hr.2.2 h.1 hx19 (z := nI 0) (fr := allF) (fun k hk => z_free k (by omega))
  rw [E_X1_endAt]
  simp only [B_X1_endAt_0, B_X1_endAt_41, B_X1_endAt_42, B_X1_endAt_53, B_X1_endAt_67, gCo G, gSt G is39, if_true, h.2.2.1, hx, sn, bI_eq, uI_same]
  by_cases c1 : sta P 0 ≤ hi
  · rw [if_pos c1, if_neg (by rw [i_lt]; rw [i_le] at c1; omega)]
    by_cases c2 : nhA P r x allF = -2
    · rw [if_neg (fun q => q c2), if_pos c2]
    · rw [if_pos c2, if_neg c2]
  · rw [if_neg c1, if_pos (by rw [i_lt]; rw [i_le] at c1; omega)]
    by_cases c2 : hi ≤ nI 0
    · rw [if_pos c2, if_neg (by rw [i_lt]; rw [i_le] at c2; omega)]
    · rw [if_neg c2, if_pos (by rw [i_lt]; rw [i_le] at c2; omega)]
theorem s_go (d : Nat) {S : mS} {I : mI} {L : mJ} {P : mP} {r : mW} (G : Gd S) (hv : PV P) (hr : RV P r) (h : CC S I P r) (sz w pl x hour : Int32) {n : Nat} (hn : n < 1000) (hx : 0 ≤ x.toInt ∧ x.toInt ≤ 19) : ∃ J, evM zcod (d + 4) 90 [.ref 58, .int sz, .int w, .int pl, .int x, .int hour, .int (nI n)] (S, I, L) = some (none, (S, J, L)) ∧ Fi coA I J ∧
    (let o := goS P r (nI (soN P r (nI 2))) sz w pl hour n 0 x (nI 0)
     J 58 3 = o.1 ∧ J 58 4 = o.2.1 ∧ J 58 5 = o.2.2.1 ∧ J 58 6 = o.2.2.2.1 ∧ (¬ o.2.1 = nI 0 → Begun J (hour + nI o.2.2.2.2) (nI 1) (nI (soN P r (nI 2))))) := by
  have co_jk : ∀ {I J : mI}, Fi coA I J → Fi jk I J := fun f => f.up fun a j q => by unfold coA at q; unfold jk; omega
  have key : ∀ k i, i + k = n → ∀ (I : mI) (x hi : Int32), CC S I P r → I 58 3 = nI 0 → I 58 4 = nI 0 → I 58 5 = -2 → I 58 6 = x → (0 ≤ x.toInt ∧ x.toInt ≤ 19) → ∃ J, evk zcod none (d + 3) zc_X1_go 37 [(0, .ref 58), (1, .int sz), (2, .int w), (3, .int pl), (5, .int hour), (6, .int (nI n)), (7, .int (nI (soN P r (nI 2)))), (8, .int hi), (9, .int (nI i))] [] (S, I, L) = some (none, (S, J, L)) ∧ Fi coA I J ∧
    (let o := goS P r (nI (soN P r (nI 2))) sz w pl hour k i x hi
     J 58 3 = o.1 ∧ J 58 4 = o.2.1 ∧ J 58 5 = o.2.2.1 ∧ J 58 6 = o.2.2.2.1 ∧ (¬ o.2.1 = nI 0 → Begun J (hour + nI o.2.2.2.2) (nI 1) (nI (soN P r (nI 2))))) := by
    intro k
    induction k with
    | zero =>
      intro i hi I x hg h e3 e4 e5 e6 hx
      refine ⟨I, ?_, Fi.rf, e3, e4, e5, e6, fun q => absurd rfl q⟩
      rw [B_X1_go_37, if_pos (nI_le (by omega) (by omega)), B_X1_go_140]
    | succ k ih =>
      intro i hi I x hg h e3 e4 e5 e6 hx
      have f1 := skB_f I (hour + nI i) (nI 1) (nI (soN P r (nI 2)))
      have B1 := skB_b I (hour + nI i) (nI 1) (nI (soN P r (nI 2)))
      have h1 := h.fi (f1.up (B := jk) fun a j q => by unfold jk; omega)
      obtain ⟨J2, c2, f2⟩ := s_lift d (L := L) G h1.2.1 B1 sz w hg x
      have h2 := h1.fi (sk_jk f2)
      obtain ⟨J3, c3, f3⟩ := s_wind d (L := L) G h2.2.1 (B1.fi f2) hg x
      have h3 := h2.fi (sk_jk f3)
      have e58 : ∀ j, J3 58 j = I 58 j := fun j => by
        rw [f3 58 j (by unfold skA; omega), f2 58 j (by unfold skA; omega), f1 58 j (by omega)]
      have e58b : ∀ j, skB I (hour + nI i) (nI 1) (nI (soN P r (nI 2))) 58 j = I 58 j := fun j => f1 58 j (by omega)
      have e58c : ∀ j, J2 58 j = I 58 j := fun j => by
        rw [f2 58 j (by unfold skA; omega), e58b]
      let x' := hld (x + pl + lawW P (hour + nI i) (nI 1) (nI (soN P r (nI 2))) hg x) (nI 0) (nI 19)
      let hi' := hg + lawL P (hour + nI i) (nI 1) (nI (soN P r (nI 2))) sz w hg x
      let J4 := uI J3 58 6 x'
      have h4 : CC S J4 P r := h3.fi (Fi.u Fi.rf (by unfold jk; omega))
      have f4 : Fi coA I J4 := by
        refine Fi.u ((f1.up fun a j q => ?_).tr ((f2.up fun a j q => ?_).tr (f3.up fun a j q => ?_))) ?_
        · unfold coA; omega
        · unfold skA at q; unfold coA; omega
        · unfold skA at q; unfold coA; omega
        · unfold coA; omega
      have B4 : Begun J4 (hour + nI i) (nI 1) (nI (soN P r (nI 2))) := by
        have b := (B1.fi f2).fi f3
        exact ⟨(uI_off (by omega)).trans b.1, (uI_off (by omega)).trans b.2.1, (uI_off (by omega)).trans b.2.2.1, (uI_off (by omega)).trans b.2.2.2⟩
      have q3 : J4 58 3 = nI 0 := (uI_ix (by omega)).trans ((e58 3).trans e3)
      have q4 : J4 58 4 = nI 0 := (uI_ix (by omega)).trans ((e58 4).trans e4)
      have q5 : J4 58 5 = -2 := (uI_ix (by omega)).trans ((e58 5).trans e5)
      have q6 : J4 58 6 = x' := uI_same _ _ _ _
      have sE := s_endAt d (L := L) G hv hr h4 (hi := hi') (bh := nI (i + 1)) q6 (hld_19 _)
      have step : evk zcod none (d + 3) zc_X1_go 37 [(0, .ref 58), (1, .int sz), (2, .int w), (3, .int pl), (5, .int hour), (6, .int (nI n)), (7, .int (nI (soN P r (nI 2)))), (8, .int hg), (9, .int (nI i))] [] (S, I, L) = evk zcod none (d + 3) zc_X1_go 124 [(0, .ref 58), (1, .int sz), (2, .int w), (3, .int pl), (5, .int hour), (6, .int (nI n)), (7, .int (nI (soN P r (nI 2)))), (8, .int hi'), (9, .int (nI i))] [] (S, J4, L) := by
        rw [B_X1_go_37, if_neg (nI_ge (by omega) (by omega))]
        simp only [gCo G, gSky G, if_true, e4, s_begin _ G, bV_eq, e58b, e6, c2, bI_eq, e58c, c3, e58, s_kept _ _ _ _ le_019]
        rw [if_neg (fun q => q trivial)]
      rw [step, B_X1_go_124]
      simp only [gCo G, if_true, nI_add, sE, bV_eq]
      show ∃ J, _ ∧ _ ∧ _
      unfold goS
      by_cases c1 : sta P 0 ≤ hi'
      · refine ⟨uI (uI (uI J4 58 5 (nhA P r x' allF)) 58 4 (if nhA P r x' allF = -2 then nI 2 else nI 1)) 58 3 (nI (i + 1)), ?_, ?_, ?_⟩
        · rw [if_pos c1, B_X1_go_37]
          simp only [gCo G, if_true, B_X1_go_140]
          rw [show (uI (uI (uI J4 58 5 (nhA P r x' allF)) 58 4 (if nhA P r x' allF = -2 then nI 2 else nI 1)) 58 3 (nI (i + 1))) 58 4 = (if nhA P r x' allF = -2 then nI 2 else nI 1) from (uI_ix (by omega)).trans (uI_same _ _ _ _)]
          have : ¬ (if nhA P r x' allF = -2 then nI 2 else nI 1) = nI 0 := by
            split <;> decide +kernel
          rw [if_pos this, ite_self]
        · exact Fi.u (Fi.u (Fi.u f4 (by unfold coA; omega)) (by unfold coA; omega)) (by unfold coA; omega)
        · simp only [show sta P 0 ≤ hg + lawL P (hour + nI i) (nI 1) (nI (soN P r (nI 2))) sz w hg x from c1, if_true]
          refine ⟨uI_same _ _ _ _, (uI_ix (by omega)).trans (uI_same _ _ _ _), (uI_ix (by omega)).trans ((uI_ix (by omega)).trans (uI_same _ _ _ _)), (uI_ix (by omega)).trans ((uI_ix (by omega)).trans ((uI_ix (by omega)).trans q6)), fun _ => ?_⟩
          exact ⟨(uI_off (by omega)).trans ((uI_off (by omega)).trans ((uI_off (by omega)).trans B4.1)), (uI_off (by omega)).trans ((uI_off (by omega)).trans ((uI_off (by omega)).trans B4.2.1)), (uI_off (by omega)).trans ((uI_off (by omega)).trans ((uI_off (by omega)).trans B4.2.2.1)), (uI_off (by omega)).trans ((uI_off (by omega)).trans ((uI_off (by omega)).trans B4.2.2.2))⟩
      · by_cases c2 : hi' ≤ nI 0
        · refine ⟨uI (uI J4 58 4 (nI 3)) 58 3 (nI (i + 1)), ?_, ?_, ?_⟩
          · rw [if_neg c1, if_pos c2, B_X1_go_37]
            simp only [gCo G, if_true, B_X1_go_140]
            rw [show (uI (uI J4 58 4 (nI 3)) 58 3 (nI (i + 1))) 58 4 = nI 3 from (uI_ix (by omega)).trans (uI_same _ _ _ _)]
            rw [if_pos (show ¬ nI 3 = nI 0 by decide +kernel), ite_self]
          · exact Fi.u (Fi.u f4 (by unfold coA; omega)) (by unfold coA; omega)
          · rw [if_neg (show ¬ sta P 0 ≤ hg + lawL P (hour + nI i) (nI 1) (nI (soN P r (nI 2))) sz w hg x from c1), if_pos (show hg + lawL P (hour + nI i) (nI 1) (nI (soN P r (nI 2))) sz w hg x ≤ nI 0 from c2)]
            refine ⟨uI_same _ _ _ _, (uI_ix (by omega)).trans (uI_same _ _ _ _), (uI_ix (by omega)).trans ((uI_ix (by omega)).trans q5), (uI_ix (by omega)).trans ((uI_ix (by omega)).trans q6), fun _ => ?_⟩
            exact ⟨(uI_off (by omega)).trans ((uI_off (by omega)).trans B4.1), (uI_off (by omega)).trans ((uI_off (by omega)).trans B4.2.1), (uI_off (by omega)).trans ((uI_off (by omega)).trans B4.2.2.1), (uI_off (by omega)).trans ((uI_off (by omega)).trans B4.2.2.2)⟩
        · rw [if_neg c1, if_neg c2, if_neg (show ¬ sta P 0 ≤ hg + lawL P (hour + nI i) (nI 1) (nI (soN P r (nI 2))) sz w hg x from c1), if_neg (show ¬ hg + lawL P (hour + nI i) (nI 1) (nI (soN P r (nI 2))) sz w hg x ≤ nI 0 from c2)]
          obtain ⟨J, z1, z2, z3⟩ := ih (i + 1) (by omega) J4 x' hi' h4 q3 q4 q5 q6 (hld_19 _)
          exact ⟨J, z1, f4.tr z2, z3⟩
  have e0 := s_stored d (L := L) G is39 hv h.1
  let I1 := uI (uI (uI (uI I 58 3 (nI 0)) 58 4 (nI 0)) 58 5 (-2)) 58 6 x
  have f0 : Fi coA I I1 := Fi.u (Fi.u (Fi.u (Fi.u Fi.rf (by unfold coA; omega)) (by unfold coA; omega)) (by unfold coA; omega)) (by unfold coA; omega)
  obtain ⟨J, z1, z2, z3⟩ := key n 0 (by omega) I1 x (nI 0) (h.fi (co_jk f0)) ((uI_ix (by omega)).trans ((uI_ix (by omega)).trans ((uI_ix (by omega)).trans (uI_same _ _ _ _)))) ((uI_ix (by omega)).trans ((uI_ix (by omega)).trans (uI_same _ _ _ _))) ((uI_ix (by omega)).trans (uI_same _ _ _ _)) (uI_same _ _ _ _) hx
  refine ⟨J, ?_, f0.tr z2, z3⟩
  rw [← z1, E_X1_go]
  simp only [B_X1_go_0, B_X1_go_28, gCo G, gSt G is39, if_true, e0, bI_eq]
  rfl
