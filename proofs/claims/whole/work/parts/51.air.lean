/-! Air: an hour of a State -/
theorem s_stirred (d : Nat) {S : mS} {I : mI} {L : mJ} (h v : Int32) : evM zcod (d + 1) 81 [.int h, .int v] (S, I, L) = some (some (.int (stir h v)), (S, I, L)) := by
  rw [E_X0_stirred, B_X0_stirred_0]
  rfl
theorem n100 : (nI 100 = nI 0) = False := eq_false (by decide +kernel)
theorem s_gust (d : Nat) {S : mS} {I : mI} {L : mJ} {P : mP} (G : Gd S) (hg : I 9 3 = sta P 1) (hour sd : Int32) : evM zcod (d + 2) 80 [.ref 56, .int hour, .int sd] (S, I, L) = some (some (.int (if gustS P sd hour = true then nI 1 else nI 0)), (S, I, L)) := by
  rw [E_X0_isGust]
  simp only [B_X0_isGust_0, B_X0_isGust_33, B_X0_isGust_34, gAir G, if_true, s_stirred, bI_eq, n100, if_false, hg, b0, b1]
  unfold gustS
  by_cases c : zrem (((stir (stir sd (nI 113)) ((nI 4) * hour)).toUInt32 >>> ((nI 1).toUInt32 &&& 31)).toInt32) (nI 100) < sta P 1
  · rw [if_pos (decide_eq_true c), if_neg (by rw [i_le]; rw [i_lt] at c; omega)]
  · rw [if_pos (by rw [i_le]; rw [i_lt] at c; omega), if_neg (by rw [decide_eq_false c]; decide)]
/-- the plan as the class knows it -/
def PC (S : mS) (I : mI) (P : mP) : Prop := LawC S P I ∧ I 9 2 = sta P 0 ∧ I 9 3 = sta P 1 ∧ I 9 4 = sta P 2
theorem CC.pc {S : mS} {I : mI} {P : mP} {r : mW} (h : CC S I P r) : PC S I P := ⟨h.2.1, h.2.2.1, h.2.2.2.1, h.2.2.2.2.1⟩
theorem PC.fi {S : mS} {I J : mI} {P : mP} (h : PC S I P) (e : ∀ a, (a = 9 ∨ a = 17 ∨ a = 18 ∨ a = 19) → J a = I a) : PC S J P := by
  obtain ⟨h2, h3, h4, h5⟩ := h
  refine ⟨h2.fi (e 17 (by omega)) (e 18 (by omega)) (e 19 (by omega)), ?_, ?_, ?_⟩
  · rw [e 9 (by omega)]; exact h3
  · rw [e 9 (by omega)]; exact h4
  · rw [e 9 (by omega)]; exact h5
theorem PC.sk {S : mS} {I J : mI} {P : mP} (h : PC S I P) (f : Fi skA I J) : PC S J P := h.fi fun a q => f.row a fun j => by unfold skA; omega
theorem CS.sk {I J : mI} {a : Nat} {P : mP} {r : mW} (h : CS I a P r) (f : Fi skA I J) (ha : a + 6 < 54) : CS J a P r := h.congI fun x j p q => f x j (by unfold skA; omega)
theorem mo_w (g : Bool) (w : Int32) : (if (if g = true then nI 1 else nI 0) = nI 0 then nI 0 else if w = nI 0 then nI 0 else if w ≤ nI 0 then -1 else nI 1) = moT g w := by
  unfold moT
  cases g
  · simp
  · simp only [if_true, n10, if_false]
    simp only [i_eq, i_le, i_lt, t_nI (show 0 < 2147483648 by omega)]
    by_cases c1 : w.toInt = ((0 : Nat) : Int)
    · rw [if_pos c1, if_neg (by omega), if_neg (by omega)]
    · rw [if_neg c1]
      by_cases c2 : w.toInt ≤ ((0 : Nat) : Int)
      · rw [if_pos c2, if_neg (by omega), if_pos (by omega)]
      · rw [if_neg c2, if_pos (by omega)]
theorem s_drift (d : Nat) {S : mS} {I : mI} {L : mJ} {a : Nat} {P : mP} {r : mW} (G : Gd S) (ha : isSt a = true) (ha2 : a + 6 < 54) (hv : PV P) (hp : PC S I P) (hc : CS I a P r) {h u st : Int32} (B : Begun I h u st) {i k : Nat} (hi : i < nLo P) (hk : k < nSi P) (ek : r (21 + i) = nI k) (g : Bool) : ∃ J, evM zcod (d + 4) 84 [.ref 56, .ref a, .int (nI i), .int (if g = true then nI 1 else nI 0)] (S, I, L) = some (none, (S, J, L)) ∧ CS J a P (drX P h u st g i k r) ∧ Begun J h u st ∧ Fi (fun x j => x = a + 2 ∨ skA x j) I J := by
  have g0 := gSt G ha
  have Tl := hc.tl G ha hv
  have Ts := hc.ts G ha hv
  have ql := hc.lo hi
  have qs := hc.si hk
  have v := hv.1
  obtain ⟨J1, e1, f1⟩ := s_lift (d := d) (L := L) G hp.1 B (sta P (30 + k)) (sta P (10 + i)) (r (14 + i)) (r i)
  have B1 := B.fi f1
  have p1 := hp.sk f1
  have c1 := hc.sk f1 ha2
  obtain ⟨J2, e2, f2⟩ := s_wind (d := d) (L := L) G p1.1 B1 (r (14 + i)) (r i)
  have B2 := B1.fi f2
  have p2 := p1.sk f2
  have c2 := c1.sk f2 ha2
  have T2 := c2.ts G ha hv
  have T2l := c2.tl G ha hv
  let W := lawW P h u st (r (14 + i)) (r i)
  let hi' := r (14 + i) + lawL P h u st (sta P (30 + k)) (sta P (10 + i)) (r (14 + i)) (r i)
  let x' := hld (r i + (r (40 + k) + W + moT g W)) (nI 0) (nI 19)
  have c3 := c2.u4 hv hi hi'
  have T3l := c3.tl G ha hv
  have c4 := c3.u0 hv hi x'
  refine ⟨uI (uI J2 (a + 2) (i * 7 + 4) hi') (a + 2) (i * 7 + 0) x', ?_, c4, ?_, Fi.u (Fi.u ((f1.up fun x j q => Or.inr q).tr (f2.up fun x j q => Or.inr q)) (Or.inl rfl)) (Or.inl rfl)⟩
  · rw [E_X0_drift]
    simp only [B_X0_drift_0, g0, gAir G, gSky G, if_true, s_atN _ Tl hi (show 5 < 7 by omega), s_atN _ Tl hi (show 4 < 7 by omega), s_atN _ Tl hi (show 0 < 7 by omega), s_atN _ Tl hi (show 1 < 7 by omega), bI_eq, ql, ek, s_atN _ Ts hk (show 0 < 4 by omega), qs, e1, B_X0_drift_65, e2]
    have fin : ∀ s0, s0 = moT g W → evk zcod none (d + 3) zc_X0_drift 101 [(1, .ref a), (2, .int (nI i)), (4, .int (nI k)), (5, .int (r (14 + i))), (6, .int (r i)), (7, .int (lawL P h u st (sta P (30 + k)) (sta P (10 + i)) (r (14 + i)) (r i))), (8, .int W)] [.int s0] (S, J2, L) = some (none, (S, uI (uI J2 (a + 2) (i * 7 + 4) hi') (a + 2) (i * 7 + 0) x', L)) := by
      intro s0 es
      rw [B_X0_drift_101]
      simp only [g0, if_true, s_atN _ T2 hk (show 3 < 4 by omega), bI_eq, c2.si hk, s_putN _ T2l hi (show 4 < 7 by omega), bV_eq, s_kept _ _ _ _ le_019, es]
      rw [s_putN _ T3l hi (show 0 < 7 by omega)]
      simp only [bV_eq, if_true, B_X0_drift_155]
      rfl
    have m := mo_w g W
    by_cases q1 : (if g = true then nI 1 else nI 0) = nI 0
    · rw [if_pos q1, B_X0_drift_100]
      rw [if_pos q1] at m
      exact fin _ m
    · rw [if_neg q1]
      rw [if_neg q1] at m
      by_cases q2 : W = nI 0
      · rw [if_pos q2, B_X0_drift_100]
        rw [if_pos q2] at m
        exact fin _ m
      · rw [if_neg q2]
        rw [if_neg q2] at m
        by_cases q3 : W ≤ nI 0
        · rw [if_pos q3, B_X0_drift_96]
          rw [if_pos q3] at m
          exact fin _ m
        · rw [if_neg q3]
          rw [if_neg q3] at m
          exact fin _ m
  · obtain ⟨z1, z2, z3, z4⟩ := B2
    have o : ∀ j, (uI (uI J2 (a + 2) (i * 7 + 4) hi') (a + 2) (i * 7 + 0) x') 54 j = J2 54 j := fun j => (uI_off (by omega)).trans (uI_off (by omega))
    exact ⟨(o 0).trans z1, (o 1).trans z2, (o 7).trans z3, (o 8).trans z4⟩
theorem s_bringDown (d : Nat) {S : mS} {I : mI} {L : mJ} {a : Nat} {P : mP} {r : mW} (G : Gd S) (ha : isSt a = true) (hv : PV P) (hc : CS I a P r) {i k : Nat} (hi : i < nLo P) (hk : k < nSi P) (ek : r (21 + i) = nI k) (how : Int32) : ∃ J, evM zcod (d + 2) 29 [.ref a, .int (nI i), .int how] (S, I, L) = some (none, (S, J, L)) ∧ CS J a P (downR r i how) ∧ Fi (fun x _ => x = a + 2 ∨ x = a + 4) I J := by
  have g0 := gSt G ha
  have v2 := hv.2.1
  have Tl := hc.tl G ha hv
  have Ts := hc.ts G ha hv
  have ql := hc.lo hi
  have k0 : kS r i = k := by
    unfold kS
    rw [ek, t_nI (by omega)]
    rfl
  have c1 := hc.s1 hv hk (-2)
  have T1 := c1.tl G ha hv
  have c2 := c1.u3 hv hi how
  have T2 := c2.tl G ha hv
  have c3 := c2.u4 hv hi (nI 0)
  have T3 := c3.tl G ha hv
  have c4 := c3.u5 hv hi (-2)
  refine ⟨_, ?_, by unfold downR; rw [k0]; exact c4, Fi.u (Fi.u (Fi.u (Fi.u Fi.rf (Or.inr rfl)) (Or.inl rfl)) (Or.inl rfl)) (Or.inl rfl)⟩
  rw [E_X8_bringDown]
  simp only [B_X8_bringDown_0, B_X8_bringDown_39, g0, if_true, s_atN _ Tl hi (show 5 < 7 by omega), bI_eq, ql, ek, s_putN _ Ts hk (show 1 < 4 by omega), bV_eq]
  rw [s_putN _ T1 hi (show 3 < 7 by omega)]
  simp only [bV_eq, if_true, g0, B_X8_bringDown_0, B_X8_bringDown_39]
  rw [s_putN _ T2 hi (show 4 < 7 by omega)]
  simp only [bV_eq, if_true, g0, B_X8_bringDown_0, B_X8_bringDown_39]
  rw [s_putN _ T3 hi (show 5 < 7 by omega)]
  simp only [bV_eq, if_true, g0, B_X8_bringDown_0, B_X8_bringDown_39]
/-- hands full, as counts -/
theorem s_busy (d : Nat) {S : mS} {I : mI} {L : mJ} {a : Nat} {P : mP} {r : mW} (G : Gd S) (ha : isSt a = true) (hv : PV P) (hc : CS I a P r) {c : Nat → Int32} (h57 : ∀ k, k < 5 → I 57 k = c k) : ∃ z, evM zcod (d + 2) 86 [.ref 56, .ref a] (S, I, L) = some (some (.int z), (S, I, L)) ∧ ∀ k, k < nHo P → (z >>> (nI k &&& nI 31)) &&& nI 1 = if freeC P c k = true then nI 0 else nI 1 := by
  have g0 := gSt G ha
  have v3 := hv.2.2.1
  have T := hc.th G ha hv
  let Q : Nat → Bool := fun k => !decide (c k < tat (I (a + 6)) 4 (nHo P) (nI k) (nI 2))
  have key : ∀ k i, i + k = 5 → evk zcod none (d + 1) zc_X0_busyHooks 4 [(0, .ref 56), (1, .ref a), (2, .int (nI (bs Q i))), (3, .int (nI i))] [] (S, I, L) = some (some (.int (nI (bs Q 5))), (S, I, L)) := by
    intro k
    induction k with
    | zero =>
      intro i hi
      rw [B_X0_busyHooks_4]
      simp only [gAir G, if_true]
      rw [if_pos (nI_le (by omega) (by omega)), B_X0_busyHooks_43, show i = 5 by omega]
    | succ k ih =>
      intro i hi
      rw [B_X0_busyHooks_4]
      simp only [gAir G, g0, if_true, true_and]
      rw [if_neg (nI_ge (by omega) (by omega)), if_pos ((zin_nI (by omega)).mpr (by omega)), s_at _ T, zix_nI (by omega), h57 i (by omega)]
      simp only [bI_eq, if_true, B_X0_busyHooks_37, nI_add]
      by_cases q : c i < tat (I (a + 6)) 4 (nHo P) (nI i) (nI 2)
      · rw [if_pos q, bs_no (P := Q) (n := i) (by show ¬ (!decide _) = true; rw [decide_eq_true q]; decide)]
        exact ih (i + 1) (by omega)
      · rw [if_neg q, bs_or (P := Q) (by omega) (by show (!decide _) = true; rw [decide_eq_false q]; rfl)]
        exact ih (i + 1) (by omega)
  refine ⟨nI (bs Q 5), ?_, fun k hk => ?_⟩
  · rw [E_X0_busyHooks, B_X0_busyHooks_0]
    exact key 5 0 (by omega)
  · rw [bs_shr (P := Q) (by omega) (by omega)]
    have e : tat (I (a + 6)) 4 (nHo P) (nI k) (nI 2) = sta P (50 + k) := by
      rw [tat_in hk (by omega) (by omega) (by omega)]
      exact (hc.ho hk).2.2.1
    show (if (!decide (c k < tat (I (a + 6)) 4 (nHo P) (nI k) (nI 2))) = true then nI 1 else nI 0) = _
    rw [e]
    unfold freeC
    by_cases q : c k < sta P (50 + k)
    · rw [decide_eq_true q]; rfl
    · rw [decide_eq_false q]; rfl
