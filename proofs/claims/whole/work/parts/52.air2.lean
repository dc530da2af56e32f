/-! Air: coming to the rim, an hour, hours -/
theorem isSt_small {a : Nat} (ha : isSt a = true) (h : a + 6 < 54) : a = 10 ∨ a = 21 ∨ a = 39 ∨ a = 46 := by
  simp only [isSt, Bool.or_eq_true, Bool.and_eq_true, Nat.beq_eq, Nat.ble_eq] at ha
  omega
theorem CS.nx {I : mI} {a : Nat} {P : mP} {r : mW} (h : CS I a P r) {i : Nat} (hi : i < nLo P) : I (a + 2) (i * 7 + 6) = r (28 + i) := (h.lo hi).2.2.2.2.2.2
theorem Begun.off {I J : mI} {h u st : Int32} (B : Begun I h u st) (e : ∀ j, J 54 j = I 54 j) : Begun J h u st := ⟨(e 0).trans B.1, (e 1).trans B.2.1, (e 7).trans B.2.2.1, (e 8).trans B.2.2.2⟩
theorem nh_neg {P : mP} {r : mW} {x : Int32} {fr : Nat → Bool} : nhA P r x fr < nI 0 ∧ nhA P r x fr = -2 ∨ ∃ k, k < nHo P ∧ nhA P r x fr = nI k := by
  rcases nh_or P r x fr (nHo P) with h | h
  · exact Or.inl ⟨by unfold nhA; rw [h]; decide +kernel, h⟩
  · exact Or.inr h
theorem s_comeToRim (d : Nat) {S : mS} {I : mI} {L : mJ} {a : Nat} {P : mP} {q : mW} (G : Gd S) (ha : isSt a = true) (ha2 : a + 6 < 54) (hv : PV P) (hp : PC S I P) (hx : HX P q) (hc : CS I a P q) {h u st : Int32} (B : Begun I h u st) {i k : Nat} (hi : i < nLo P) (hk : k < nSi P) (ek : q (21 + i) = nI k) (e28 : q (28 + i) = -2) (x19 : 0 ≤ (q i).toInt ∧ (q i).toInt ≤ 19) {c : Nat → Int32} (h57 : ∀ k, k < 5 → I 57 k = c k) :
    ∃ J c', evM zcod (d + 4) 85 [.ref 56, .ref a, .int (nI i)] (S, I, L) = some (none, (S, J, L)) ∧
      ((if nhA P q (q i) (freeC P c) < nI 0 then (downR q i (nI 3), c) else (ur (ur (downR q i (nI 2)) (28 + i) (nhA P q (q i) (freeC P c))) 56 (q 56 + lawP P h u st (sta P (20 + i)) (sta P (10 + i))), updC c (nhA P q (q i) (freeC P c)).toInt.toNat (c (nhA P q (q i) (freeC P c)).toInt.toNat + nI 1))) = c') ∧
      CS J a P c'.1 ∧ (∀ k, k < 5 → J 57 k = c'.2 k) ∧ Begun J h u st ∧ Fi (fun x j => a ≤ x ∧ x ≤ a + 6 ∨ skA x j ∨ x = 57) I J := by
  have g0 := gSt G ha
  have v := hv
  obtain ⟨v1, v2, v3, v4⟩ := v
  have Tl := hc.tl G ha hv
  obtain ⟨z, eb, hz⟩ := s_busy (d + 1) (L := L) G ha hv hc h57
  have en := s_nearest (d + 1) (L := L) G ha hv hx hc x19 hz
  have st0 : evM zcod (d + 4) 85 [.ref 56, .ref a, .int (nI i)] (S, I, L) = if nhA P q (q i) (freeC P c) < nI 0 then evk zcod none (d + 3) zc_X0_comeToRim 32 [(1, .ref a), (2, .int (nI i))] [] (S, I, L) else if nhA P q (q i) (freeC P c) < nI 5 then evk zcod none (d + 3) zc_X0_comeToRim 39 [(0, .ref 56), (1, .ref a), (2, .int (nI i)), (3, .int (nhA P q (q i) (freeC P c)))] [] (S, I, L) else evk zcod none (d + 3) zc_X0_comeToRim 32 [(1, .ref a), (2, .int (nI i))] [] (S, I, L) := by
    rw [E_X0_comeToRim]
    simp only [B_X0_comeToRim_0, g0, gAir G, if_true, s_atN _ Tl hi (show 0 < 7 by omega), bI_eq, hc.lo hi, eb, en]
  rw [st0]
  rcases nh_neg (P := P) (r := q) (x := q i) (fr := freeC P c) with ⟨n1, n2⟩ | ⟨g, hg, n2⟩
  · obtain ⟨J, e, cj, f⟩ := s_bringDown (d := d + 1) (L := L) G ha hv hc hi hk ek (nI 3)
    refine ⟨J, _, ?_, rfl, ?_, ?_, ?_, f.up fun x j w => by omega⟩
    · rw [if_pos n1, B_X0_comeToRim_32]
      simp only [g0, if_true, e, bV_eq]
    · rw [if_pos n1]; exact cj
    · rw [if_pos n1]
      intro k hk
      rw [f 57 k (by omega)]
      exact h57 k hk
    · exact B.off fun j => f 54 j (by omega)
  · have n1 : ¬ nI g < nI 0 := nI_nlt (by omega) (by omega)
    let I1 := uI I 57 g (c g + nI 1)
    have c1 : CS I1 a P q := hc.congI fun x j p w => uI_off (by omega)
    obtain ⟨J2, e2, c2, f2⟩ := s_bringDown (d := d + 1) (L := L) G ha hv c1 hi hk ek (nI 2)
    have T2 := c2.tl G ha hv
    have T2h := c2.th G ha hv
    have d28 : downR q i (nI 2) (28 + i) = -2 := by
      unfold downR
      rw [ur_n (by omega), ur_n (by omega), ur_n (by omega), ur_n (by unfold kS; rw [ek, t_nI (by omega)]; omega)]
      exact e28
    have d56 : downR q i (nI 2) 56 = q 56 := by
      unfold downR
      rw [ur_n (by omega), ur_n (by omega), ur_n (by omega), ur_n (by unfold kS; rw [ek, t_nI (by omega)]; omega)]
    have c3 := c2.ct hv hi hg d28
    let J3 := uI (uI J2 (a + 2) (i * 7 + 6) (nI g)) (a + 6) (g * 4 + 3) (J2 (a + 6) (g * 4 + 3) ||| (nI 1 <<< (nI i &&& nI 31)))
    have f3 : Fi (fun x j => a ≤ x ∧ x ≤ a + 6 ∨ skA x j ∨ x = 57) I J3 := Fi.u (Fi.u ((Fi.u (k := g) (x := c g + nI 1) Fi.rf (Or.inr (Or.inr rfl))).tr (f2.up fun x j w => Or.inl (by omega))) (Or.inl (by omega))) (Or.inl (by omega))
    have B3 : Begun J3 h u st := B.off fun j => (uI_off (by omega)).trans ((uI_off (by omega)).trans ((f2 54 j (by omega)).trans (uI_off (by omega))))
    have p3 : PC S J3 P := hp.fi fun x w => funext fun j => f3 x j (by
      have := isSt_small ha ha2
      unfold skA
      omega)
    have c3' : CS J3 a P (ur (downR q i (nI 2)) (28 + i) (nI g)) := c3
    have T3 := c3'.tl G ha hv
    obtain ⟨J4, e4, f4⟩ := s_pays (d := d) (L := L) G p3.1 B3 (sta P (20 + i)) (sta P (10 + i))
    have c4 : CS J4 a P (ur (downR q i (nI 2)) (28 + i) (nI g)) := c3.sk f4 ha2
    have c5 := c4.t4 hv (q 56 + lawP P h u st (sta P (20 + i)) (sta P (10 + i)))
    have j56 : J3 a 4 = q 56 := by
      rw [show J3 a 4 = ur (downR q i (nI 2)) (28 + i) (nI g) 56 from c3.ti.2.1, ur_n (by omega), d56]
    refine ⟨uI J4 a 4 (q 56 + lawP P h u st (sta P (20 + i)) (sta P (10 + i))), _, ?_, rfl, ?_, ?_, ?_, Fi.u (f3.tr (f4.up fun x j w => Or.inr (Or.inl w))) (Or.inl ⟨by omega, by omega⟩)⟩
    · rw [n2, if_neg n1, if_pos (nI_lt (by omega) (by omega)), B_X0_comeToRim_39]
      simp only [g0, gAir G, gSky G, if_true, true_and]
      rw [if_pos ((zin_nI (by omega)).mpr (by omega)), if_pos ((zin_nI (by omega)).mpr (by omega)), zix_nI (by omega), h57 g (by omega)]
      simp only [show uI I 57 g (c g + nI 1) = I1 from rfl, e2, bV_eq, if_true, g0]
      rw [s_putN _ T2 hi (show 6 < 7 by omega)]
      simp only [bV_eq, if_true, g0]
      have T2h' : Tg S (uI J2 (a + 2) (i * 7 + 6) (nI g)) (a + 5) (a + 6) 5 4 (nHo P) := T2h.fi (uI_off (by omega)) (uI_off (by omega)) (uI_off (by omega))
      rw [s_atN _ T2h' hg (show 3 < 4 by omega)]
      simp only [bI_eq, if_true, g0]
      rw [s_putN _ T2h' hg (show 3 < 4 by omega)]
      simp only [bV_eq, if_true, uI_off (show a + 6 ≠ a + 2 by omega)]
      rw [show uI (uI J2 (a + 2) (i * 7 + 6) (nI g)) (a + 6) (g * 4 + 3) (J2 (a + 6) (g * 4 + 3) ||| (nI 1 <<< (nI i &&& nI 31))) = J3 from rfl, B_X0_comeToRim_88]
      simp only [g0, gAir G, gSky G, if_true, s_atN _ T3 hi (show 2 < 7 by omega), s_atN _ T3 hi (show 1 < 7 by omega), bI_eq, c3'.lo hi, e4, j56, B_X0_comeToRim_122]
    · rw [n2, if_neg n1]; exact c5
    · rw [n2, if_neg n1]
      intro k hk
      show uI J4 a 4 _ 57 k = updC c (nI g).toInt.toNat (c (nI g).toInt.toNat + nI 1) k
      rw [uI_off (by omega), f4 57 k (by unfold skA; omega)]
      have j3 : J3 57 k = J2 57 k := (uI_off (by omega)).trans (uI_off (by omega))
      show J3 57 k = _
      rw [j3, f2 57 k (by omega), t_nI (by omega), Int.toNat_natCast]
      unfold updC
      by_cases w : k = g
      · rw [if_pos w, w]; exact uI_same _ _ _ _
      · rw [if_neg w]; exact (uI_ix w).trans (h57 k hk)
    · exact (B3.fi f4).off fun j => uI_off (by omega)
/-! the row stays well -/
theorem RV.un {P : mP} {r : mW} (h : RV P r) (hv : PV P) {k : Nat} (hk : 45 ≤ k ∧ k < 50 ∨ 55 ≤ k) (v : Int32) : RV P (ur r k v) := by
  obtain ⟨v1, v2, v3, -⟩ := hv
  obtain ⟨hl, hs, hh⟩ := h
  refine ⟨fun a ha => ?_, fun j hj => ?_, fun j hj => ?_⟩
  · rw [ur_n (by omega), ur_n (by omega), ur_n (by omega), ur_n (by omega), ur_n (by omega)]
    obtain ⟨q1, q2, q3, q4, q5, q6⟩ := hl a ha
    refine ⟨q1, q2, fun e => ?_, q4, q5, q6⟩
    obtain ⟨k', w1, w2, w3⟩ := q3 e
    exact ⟨k', w1, w2, by rw [ur_n (by omega)]; exact w3⟩
  · rw [ur_n (by omega), ur_n (by omega)]
    obtain ⟨q1, q2⟩ := hs j hj
    refine ⟨q1, ?_⟩
    rcases q2 with q | ⟨a, w1, w2, w3, w4⟩
    · exact Or.inl q
    · exact Or.inr ⟨a, w1, w2, by rw [ur_n (by omega)]; exact w3, by rw [ur_n (by omega)]; exact w4⟩
  · rw [ur_n (by omega)]
    exact hh j hj
theorem kS_of {r : mW} {i k : Nat} (h : r (21 + i) = nI k) (hk : k < 100) : kS r i = k := by
  unfold kS
  rw [h, t_nI (by omega)]
  rfl
/-- a load in the air comes down: stored by g (how 2), or as how tells (0, 3) -/
theorem RV.down {P : mP} {r : mW} (h : RV P r) (hv : PV P) {i : Nat} (hi : i < nLo P) (air : r (7 + i) = nI 1) {how : Int32} (hh : how = nI 0 ∨ how = nI 3 ∨ how = nI 2) : RV P (downR r i how) := by
  obtain ⟨v1, v2, v3, -⟩ := hv
  obtain ⟨hl, hs, hho⟩ := h
  obtain ⟨k, hk, e21, e35⟩ := (hl i hi).2.2.1 air
  have n1 : ¬ how = nI 1 := by rcases hh with rfl | rfl | rfl <;> decide +kernel
  have e28 : r (28 + i) = -2 := (hl i hi).2.2.2.2.2 (by rw [air]; decide +kernel)
  unfold downR
  rw [kS_of e21 (by omega)]
  refine ⟨fun a ha => ?_, fun j hj => ?_, fun j hj => ?_⟩
  · obtain ⟨q1, q2, q3, q4, q5, q6⟩ := hl a ha
    rw [show ur (ur (ur (ur r (35 + k) (-2)) (7 + i) how) (14 + i) (nI 0)) (21 + i) (-2) a = r a from by rw [ur_n (by omega), ur_n (by omega), ur_n (by omega), ur_n (by omega)]]
    rw [show ur (ur (ur (ur r (35 + k) (-2)) (7 + i) how) (14 + i) (nI 0)) (21 + i) (-2) (28 + a) = r (28 + a) from by rw [ur_n (by omega), ur_n (by omega), ur_n (by omega), ur_n (by omega)]]
    by_cases e : a = i
    · subst e
      rw [show ur (ur (ur (ur r (35 + k) (-2)) (7 + a) how) (14 + a) (nI 0)) (21 + a) (-2) (7 + a) = how from by rw [ur_n (by omega), ur_n (by omega), ur_s]]
      rw [show ur (ur (ur (ur r (35 + k) (-2)) (7 + a) how) (14 + a) (nI 0)) (21 + a) (-2) (14 + a) = nI 0 from by rw [ur_n (by omega), ur_s], ur_s]
      refine ⟨q1, ?_, fun z => absurd z n1, fun _ => ⟨rfl, rfl⟩, q5, fun _ => e28⟩
      rcases hh with z | z | z
      · exact Or.inl z
      · exact Or.inr (Or.inr (Or.inr z))
      · exact Or.inr (Or.inr (Or.inl z))
    · rw [show ur (ur (ur (ur r (35 + k) (-2)) (7 + i) how) (14 + i) (nI 0)) (21 + i) (-2) (7 + a) = r (7 + a) from by rw [ur_n (by omega), ur_n (by omega), ur_n (by omega), ur_n (by omega)]]
      rw [show ur (ur (ur (ur r (35 + k) (-2)) (7 + i) how) (14 + i) (nI 0)) (21 + i) (-2) (14 + a) = r (14 + a) from by rw [ur_n (by omega), ur_n (by omega), ur_n (by omega), ur_n (by omega)]]
      rw [show ur (ur (ur (ur r (35 + k) (-2)) (7 + i) how) (14 + i) (nI 0)) (21 + i) (-2) (21 + a) = r (21 + a) from by rw [ur_n (by omega), ur_n (by omega), ur_n (by omega), ur_n (by omega)]]
      refine ⟨q1, q2, fun z => ?_, q4, q5, q6⟩
      obtain ⟨k', w1, w2, w3⟩ := q3 z
      refine ⟨k', w1, w2, ?_⟩
      have kk : k' ≠ k := fun y => by
        subst y
        rw [w3] at e35
        exact e ((nI_eq (by omega) (by omega)).mp e35)
      rw [ur_n (by omega), ur_n (by omega), ur_n (by omega), ur_n (by omega)]
      exact w3
  · obtain ⟨q1, q2⟩ := hs j hj
    rw [show ur (ur (ur (ur r (35 + k) (-2)) (7 + i) how) (14 + i) (nI 0)) (21 + i) (-2) (40 + j) = r (40 + j) from by rw [ur_n (by omega), ur_n (by omega), ur_n (by omega), ur_n (by omega)]]
    refine ⟨q1, ?_⟩
    rw [ur_n (by omega), ur_n (by omega), ur_n (by omega)]
    by_cases e : j = k
    · subst e
      exact Or.inl (ur_s _ _ _)
    · rw [ur_n (by omega)]
      rcases q2 with q | ⟨a, w1, w2, w3, w4⟩
      · exact Or.inl q
      · refine Or.inr ⟨a, w1, w2, ?_, ?_⟩
        · have : a ≠ i := fun y => by
            subst y
            rw [w4] at e21
            exact e ((nI_eq (by omega) (by omega)).mp e21)
          rw [ur_n (by omega), ur_n (by omega), ur_n (by omega), ur_n (by omega)]
          exact w3
        · have : a ≠ i := fun y => by
            subst y
            rw [w4] at e21
            exact e ((nI_eq (by omega) (by omega)).mp e21)
          rw [ur_n (by omega), ur_n (by omega), ur_n (by omega), ur_n (by omega)]
          exact w4
  · rw [ur_n (by omega), ur_n (by omega), ur_n (by omega), ur_n (by omega)]
    exact hho j hj
theorem RV.hook {P : mP} {r : mW} (h : RV P r) (hv : PV P) {i g : Nat} (hi : i < nLo P) (hg : g < nHo P) (st : r (7 + i) = nI 2) : RV P (ur r (28 + i) (nI g)) := by
  obtain ⟨v1, v2, v3, -⟩ := hv
  obtain ⟨hl, hs, hho⟩ := h
  refine ⟨fun a ha => ?_, fun j hj => ?_, fun j hj => ?_⟩
  · obtain ⟨q1, q2, q3, q4, q5, q6⟩ := hl a ha
    rw [ur_n (j := a) (by omega), ur_n (j := 7 + a) (by omega), ur_n (j := 14 + a) (by omega), ur_n (j := 21 + a) (by omega)]
    refine ⟨q1, q2, fun z => ?_, q4, ?_, ?_⟩
    · obtain ⟨k', w1, w2, w3⟩ := q3 z
      exact ⟨k', w1, w2, by rw [ur_n (by omega)]; exact w3⟩
    · by_cases e : a = i
      · subst e; exact Or.inr ⟨g, hg, ur_s _ _ _⟩
      · rw [ur_n (by omega)]; exact q5
    · intro z
      by_cases e : a = i
      · subst e; exact absurd st z
      · rw [ur_n (by omega)]; exact q6 z
  · obtain ⟨q1, q2⟩ := hs j hj
    rw [ur_n (by omega), ur_n (by omega)]
    refine ⟨q1, ?_⟩
    rcases q2 with q | ⟨a, w1, w2, w3, w4⟩
    · exact Or.inl q
    · exact Or.inr ⟨a, w1, w2, by rw [ur_n (by omega)]; exact w3, by rw [ur_n (by omega)]; exact w4⟩
  · rw [ur_n (by omega)]
    exact hho j hj
theorem RV.drX {P : mP} {r : mW} (h : RV P r) (hv : PV P) {i : Nat} (hi : i < nLo P) (air : r (7 + i) = nI 1) (v w : Int32) (x19 : 0 ≤ w.toInt ∧ w.toInt ≤ 19) : RV P (ur (ur r (14 + i) v) i w) := by
  obtain ⟨v1, v2, v3, -⟩ := hv
  obtain ⟨hl, hs, hho⟩ := h
  refine ⟨fun a ha => ?_, fun j hj => ?_, fun j hj => ?_⟩
  · obtain ⟨q1, q2, q3, q4, q5, q6⟩ := hl a ha
    rw [show ur (ur r (14 + i) v) i w (7 + a) = r (7 + a) from by rw [ur_n (by omega), ur_n (by omega)], show ur (ur r (14 + i) v) i w (21 + a) = r (21 + a) from by rw [ur_n (by omega), ur_n (by omega)], show ur (ur r (14 + i) v) i w (28 + a) = r (28 + a) from by rw [ur_n (by omega), ur_n (by omega)]]
    refine ⟨?_, q2, fun z => ?_, fun z => ⟨(q4 z).1, ?_⟩, q5, q6⟩
    · by_cases e : a = i
      · subst e; rw [ur_s]; exact x19
      · rw [ur_n (by omega), ur_n (by omega)]; exact q1
    · obtain ⟨k', w1, w2, w3⟩ := q3 z
      exact ⟨k', w1, w2, by rw [ur_n (by omega), ur_n (by omega)]; exact w3⟩
    · have e : a ≠ i := fun e => by subst e; exact z air
      rw [ur_n (by omega), ur_n (by omega)]
      exact (q4 z).2
  · obtain ⟨q1, q2⟩ := hs j hj
    rw [ur_n (by omega), ur_n (by omega), ur_n (by omega), ur_n (by omega)]
    refine ⟨q1, ?_⟩
    rcases q2 with q | ⟨a, w1, w2, w3, w4⟩
    · exact Or.inl q
    · exact Or.inr ⟨a, w1, w2, by rw [ur_n (by omega), ur_n (by omega)]; exact w3, by rw [ur_n (by omega), ur_n (by omega)]; exact w4⟩
  · rw [ur_n (by omega), ur_n (by omega)]
    exact hho j hj
