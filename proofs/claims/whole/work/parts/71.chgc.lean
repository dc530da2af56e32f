/-! what changes the row, class side -/
/-- a load let go by a silk -/
def tieR (r : mW) (i k : Nat) : mW := ur (ur (ur (ur (ur r (7 + i) (nI 1)) (14 + i) (nI 0)) (21 + i) (nI k)) (35 + k) (nI i)) (45 + k) (r (45 + k) + nI 1)
theorem s_letGo (d : Nat) {S : mS} {I : mI} {L : mJ} {P : mP} {r : mW} (G : Gd S) (hv : PV P) (h : CS I 39 P r) {i k : Nat} (hi : i < nLo P) (hk : k < nSi P) : ∃ J, evM zcod (d + 2) 28 [.ref 39, .int (nI i), .int (nI k)] (S, I, L) = some (none, (S, J, L)) ∧ CS J 39 P (tieR r i k) ∧ Fi (fun a _ => 41 ≤ a ∧ a ≤ 43) I J := by
  have v := hv
  obtain ⟨v1, v2, -⟩ := v
  have T0 := h.tl G is39 hv
  have c1 : CS (uI I 41 (i * 7 + 3) (nI 1)) 39 P (ur r (7 + i) (nI 1)) := h.u3 hv hi (nI 1)
  have T1 := c1.tl G is39 hv
  have c2 : CS (uI (uI I 41 (i * 7 + 3) (nI 1)) 41 (i * 7 + 4) (nI 0)) 39 P (ur (ur r (7 + i) (nI 1)) (14 + i) (nI 0)) := c1.u4 hv hi (nI 0)
  have T2 := c2.tl G is39 hv
  have c3 : CS (uI (uI (uI I 41 (i * 7 + 3) (nI 1)) 41 (i * 7 + 4) (nI 0)) 41 (i * 7 + 5) (nI k)) 39 P (ur (ur (ur r (7 + i) (nI 1)) (14 + i) (nI 0)) (21 + i) (nI k)) := c2.u5 hv hi (nI k)
  have T3 := c3.ts G is39 hv
  have c4 : CS (uI (uI (uI (uI I 41 (i * 7 + 3) (nI 1)) 41 (i * 7 + 4) (nI 0)) 41 (i * 7 + 5) (nI k)) 43 (k * 4 + 1) (nI i)) 39 P (ur (ur (ur (ur r (7 + i) (nI 1)) (14 + i) (nI 0)) (21 + i) (nI k)) (35 + k) (nI i)) := c3.s1 hv hk (nI i)
  have T4 := c4.ts G is39 hv
  have e45 : (ur (ur (ur (ur r (7 + i) (nI 1)) (14 + i) (nI 0)) (21 + i) (nI k)) (35 + k) (nI i)) (45 + k) = r (45 + k) := by rw [ur_n (by omega), ur_n (by omega), ur_n (by omega), ur_n (by omega)]
  have c5 := c4.s2 hv hk (r (45 + k) + nI 1)
  refine ⟨_, ?_, c5, Fi.u (Fi.u (Fi.u (Fi.u (Fi.u Fi.rf ⟨by omega, by omega⟩) ⟨by omega, by omega⟩) ⟨by omega, by omega⟩) ⟨by omega, by omega⟩) ⟨by omega, by omega⟩⟩
  rw [E_X8_letGo]
  simp only [B_X8_letGo_0, gSt G is39, if_true]
  rw [s_putN _ T0 hi (show 3 < 7 by omega)]
  simp only [bV_eq, if_true, gSt G is39]
  rw [s_putN _ T1 hi (show 4 < 7 by omega)]
  simp only [bV_eq, if_true, gSt G is39]
  rw [s_putN _ T2 hi (show 5 < 7 by omega)]
  simp only [bV_eq, if_true, gSt G is39]
  rw [s_putN _ T3 hk (show 1 < 4 by omega)]
  simp only [bV_eq, if_true, gSt G is39, B_X8_letGo_40]
  rw [s_atN _ T4 hk (show 2 < 4 by omega)]
  simp only [bI_eq, if_true, gSt G is39, (c4.si hk).2.2.1, e45]
  rw [s_putN _ T4 hk (show 2 < 4 by omega)]
  simp only [bV_eq, if_true]
theorem RV.tie {P : mP} {r : mW} (h : RV P r) (hv : PV P) {i k : Nat} (hi : i < nLo P) (hk : k < nSi P) (e7 : r (7 + i) = nI 0) (e35 : r (35 + k) = -2) : RV P (tieR r i k) := by
  obtain ⟨v1, v2, v3, -⟩ := hv
  obtain ⟨hl, hs, hh⟩ := h
  have g : ∀ j, j ≠ 7 + i → j ≠ 14 + i → j ≠ 21 + i → j ≠ 35 + k → j ≠ 45 + k → tieR r i k j = r j := fun j a b c d e => by
    unfold tieR
    rw [ur_n e, ur_n d, ur_n c, ur_n b, ur_n a]
  have g7 : tieR r i k (7 + i) = nI 1 := by
    unfold tieR
    rw [ur_n (by omega), ur_n (by omega), ur_n (by omega), ur_n (by omega), ur_s]
  have g14 : tieR r i k (14 + i) = nI 0 := by
    unfold tieR
    rw [ur_n (by omega), ur_n (by omega), ur_n (by omega), ur_s]
  have g21 : tieR r i k (21 + i) = nI k := by
    unfold tieR
    rw [ur_n (by omega), ur_n (by omega), ur_s]
  have g35 : tieR r i k (35 + k) = nI i := by
    unfold tieR
    rw [ur_n (by omega), ur_s]
  refine ⟨fun a ha => ?_, fun j hj => ?_, fun j hj => ?_⟩
  · obtain ⟨q1, q2, q3, q4, q5, q6⟩ := hl a ha
    by_cases z : a = i
    · subst z
      rw [g7, g14, g21, g a (by omega) (by omega) (by omega) (by omega) (by omega), g (28 + a) (by omega) (by omega) (by omega) (by omega) (by omega)]
      exact ⟨q1, Or.inr (Or.inl rfl), fun _ => ⟨k, hk, rfl, g35⟩, fun w => absurd rfl w, q5, fun _ => q6 (by rw [e7]; decide +kernel)⟩
    · rw [g a (by omega) (by omega) (by omega) (by omega) (by omega), g (7 + a) (by omega) (by omega) (by omega) (by omega) (by omega), g (14 + a) (by omega) (by omega) (by omega) (by omega) (by omega), g (21 + a) (by omega) (by omega) (by omega) (by omega) (by omega), g (28 + a) (by omega) (by omega) (by omega) (by omega) (by omega)]
      refine ⟨q1, q2, fun w => ?_, q4, q5, q6⟩
      obtain ⟨k', w1, w2, w3⟩ := q3 w
      have : k' ≠ k := fun w4 => by
        rw [w4, e35] at w3
        exact nI_m2 (by omega) w3.symm
      exact ⟨k', w1, w2, by rw [g (35 + k') (by omega) (by omega) (by omega) (by omega) (by omega)]; exact w3⟩
  · obtain ⟨q1, q2⟩ := hs j hj
    rw [g (40 + j) (by omega) (by omega) (by omega) (by omega) (by omega)]
    refine ⟨q1, ?_⟩
    by_cases z : j = k
    · subst z
      rw [g35]
      exact Or.inr ⟨i, hi, rfl, g7, g21⟩
    · rw [g (35 + j) (by omega) (by omega) (by omega) (by omega) (by omega)]
      rcases q2 with q | ⟨a, w1, w2, w3, w4⟩
      · exact Or.inl q
      · have : a ≠ i := fun w5 => by
          rw [w5, e7] at w3
          exact absurd w3 (by decide +kernel)
        exact Or.inr ⟨a, w1, w2, by rw [g (7 + a) (by omega) (by omega) (by omega) (by omega) (by omega)]; exact w3, by rw [g (21 + a) (by omega) (by omega) (by omega) (by omega) (by omega)]; exact w4⟩
  · rw [g (50 + j) (by omega) (by omega) (by omega) (by omega) (by omega)]
    exact hh j hj
theorem RV.move {P : mP} {r : mW} (h : RV P r) (hv : PV P) {k : Nat} {x : Int32} (hk : k < nHo P) (hx : 0 ≤ x.toInt ∧ x.toInt ≤ 19) : RV P (ur r (50 + k) x) := by
  obtain ⟨v1, v2, v3, -⟩ := hv
  obtain ⟨hl, hs, hh⟩ := h
  refine ⟨fun a ha => ?_, fun j hj => ?_, fun j hj => ?_⟩
  · rw [ur_n (by omega), ur_n (by omega), ur_n (by omega), ur_n (by omega), ur_n (by omega)]
    obtain ⟨q1, q2, q3, q4, q5, q6⟩ := hl a ha
    refine ⟨q1, q2, fun e => ?_, q4, q5, q6⟩
    obtain ⟨k', w1, w2, w3⟩ := q3 e
    exact ⟨k', w1, w2, by rw [ur_n (by omega)]; exact w3⟩
  · rw [ur_n (by omega), ur_n (by omega)]
    obtain ⟨q1, q2⟩ := hs j hj
    refine ⟨q1, ?_⟩
    rcases q2 with q | ⟨a, w1, w2, w3, w4⟩
    · exact Or.inl q
    · exact Or.inr ⟨a, w1, w2, by rw [ur_n (by omega)]; exact w3, by rw [ur_n (by omega)]; exact w4⟩
  · by_cases z : j = k
    · subst z
      rw [ur_s]
      exact hx
    · rw [ur_n (by omega)]
      exact hh j hj
theorem RV.patch {P : mP} {r : mW} (h : RV P r) (hv : PV P) {k : Nat} {x : Int32} (hk : k < nSi P) (hx : -3 ≤ x.toInt ∧ x.toInt ≤ 3) : RV P (ur r (40 + k) x) := by
  obtain ⟨v1, v2, v3, -⟩ := hv
  obtain ⟨hl, hs, hh⟩ := h
  refine ⟨fun a ha => ?_, fun j hj => ?_, fun j hj => ?_⟩
  · rw [ur_n (by omega), ur_n (by omega), ur_n (by omega), ur_n (by omega), ur_n (by omega)]
    obtain ⟨q1, q2, q3, q4, q5, q6⟩ := hl a ha
    refine ⟨q1, q2, fun e => ?_, q4, q5, q6⟩
    obtain ⟨k', w1, w2, w3⟩ := q3 e
    exact ⟨k', w1, w2, by rw [ur_n (by omega)]; exact w3⟩
  · rw [ur_n (show 35 + j ≠ 40 + k by omega)]
    obtain ⟨q1, q2⟩ := hs j hj
    refine ⟨?_, ?_⟩
    · by_cases z : j = k
      · subst z
        rw [ur_s]
        exact hx
      · rw [ur_n (by omega)]
        exact q1
    · rcases q2 with q | ⟨a, w1, w2, w3, w4⟩
      · exact Or.inl q
      · exact Or.inr ⟨a, w1, w2, by rw [ur_n (by omega)]; exact w3, by rw [ur_n (by omega)]; exact w4⟩
  · rw [ur_n (by omega)]
    exact hh j hj
/-- the class's whole state but the tape: what is planned, the row, what is kept, held, told -/
def ZC (S : mS) (I : mI) (P : mP) (r : mW) (H : Nat → mW) (dp : Nat) (Q : Nat → mW) (hd : Nat → Bool) (T : Nat → Nat → Int32) (nt : Nat) : Prop := PV P ∧ RV P r ∧ CC S I P r ∧ PH I P H dp ∧ SH I P Q hd ∧ TV T nt ∧ TC S I T nt
/-- what the row's changes may touch -/
def chA (a j : Nat) : Prop := (39 ≤ a ∧ a ≤ 45) ∨ jk a j ∨ paA a j
theorem TC.cg {S : mS} {I J : mI} {T : Nat → Nat → Int32} {nt : Nat} (h : TC S I T nt) (e : ∀ j, J 382 j = I 382 j) (e2 : ∀ j, J 383 j = I 383 j) : TC S J T nt := ⟨h.1.fi (e 0) (e 1) (e 3), fun i hi c hc => (e2 _).trans (h.2 i hi c hc)⟩
theorem CC.ch {S : mS} {I J : mI} {P : mP} {r r' : mW} (h : CC S I P r) (c : CS J 39 P r') (f : Fi chA I J) : CC S J P r' := by
  obtain ⟨h1, h2, h3, h4, h5, h6⟩ := h
  have e : ∀ a, a < 39 → J a = I a := fun a q => f.row a fun j => by unfold chA jk paA; omega
  refine ⟨c, h2.fi (e 17 (by omega)) (e 18 (by omega)) (e 19 (by omega)), ?_, ?_, ?_, ?_⟩
  · rw [e 9 (by omega)]; exact h3
  · rw [e 9 (by omega)]; exact h4
  · rw [e 9 (by omega)]; exact h5
  · obtain ⟨w1, w2, w3, w4, w5, w6⟩ := h6
    exact ⟨(f 47 0 (by unfold chA jk paA; omega)).trans w1, (f 47 1 (by unfold chA jk paA; omega)).trans w2, (f 49 0 (by unfold chA jk paA; omega)).trans w3, (f 49 1 (by unfold chA jk paA; omega)).trans w4, (f 51 0 (by unfold chA jk paA; omega)).trans w5, (f 51 1 (by unfold chA jk paA; omega)).trans w6⟩
theorem ZC.fi {S : mS} {I J : mI} {P : mP} {r : mW} {H : Nat → mW} {dp : Nat} {Q : Nat → mW} {hd : Nat → Bool} {T : Nat → Nat → Int32} {nt : Nat} (h : ZC S I P r H dp Q hd T nt) (f : Fi jk I J) : ZC S J P r H dp Q hd T nt := by
  obtain ⟨h1, h2, h3, h4, h5, h6, h7⟩ := h
  have e : ∀ x j, 78 ≤ x → J x j = I x j := fun x j q => f x j (by unfold jk; omega)
  exact ⟨h1, h2, h3.fi f, h4.cg (fun x j q _ => e x j (by omega)) (e _ _ (by omega)) (e _ _ (by omega)), h5.cg (fun x j q _ => e x j (by omega)) (e _ _ (by omega)), h6, h7.cg (fun j => e _ _ (by omega)) (fun j => e _ _ (by omega))⟩
/-- a change kept first -/
theorem ZC.ch {S : mS} {I J : mI} {P : mP} {r r' : mW} {H H' : Nat → mW} {dp dp' : Nat} {Q : Nat → mW} {hd : Nat → Bool} {T : Nat → Nat → Int32} {nt : Nat} (h : ZC S I P r H dp Q hd T nt) (hr : RV P r') (c : CS J 39 P r') (p : PH J P H' dp') (f : Fi chA I J) : ZC S J P r' H' dp' Q hd T nt := by
  obtain ⟨h1, h2, h3, h4, h5, h6, h7⟩ := h
  exact ⟨h1, hr, h3.ch c f, p, h5.cg (fun x j q _ => f x j (by unfold chA jk paA; omega)) (f _ _ (by unfold chA jk paA; omega)), h6, h7.cg (fun j => f _ _ (by unfold chA jk paA; omega)) (fun j => f _ _ (by unfold chA jk paA; omega))⟩
