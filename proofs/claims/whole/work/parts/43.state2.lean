/-! State: what changes it -/
theorem s_min (d : Nat) {S : mS} {I : mI} {L : mJ} (x y : Int32) : evM zcod (d + 1) 275 [.int x, .int y] (S, I, L) = some (some (.int (if y < x then y else x)), (S, I, L)) := by
  rw [E_J9_min_7cf53]
  simp only [B_J9_min_7cf53_0, B_J9_min_7cf53_9, B_J9_min_7cf53_10]
  split <;> rfl
theorem s_max (d : Nat) {S : mS} {I : mI} {L : mJ} (x y : Int32) : evM zcod (d + 1) 274 [.int x, .int y] (S, I, L) = some (some (.int (if x < y then y else x)), (S, I, L)) := by
  rw [E_J9_max_7cf53]
  simp only [B_J9_max_7cf53_0, B_J9_max_7cf53_9, B_J9_max_7cf53_10]
  split <;> rfl
/-- copying Things of one width -/
theorem s_tbecome (d : Nat) {S : mS} {I : mI} {L : mJ} {t c t' c' m w n N : Nat} (h : Tg S I t c m w n) (k1 : kK S t' = 9) (k2 : kR S t' 2 = c') (k3 : kK S c' = 20) (k4 : kN S c' = N) (k5 : kN S c = N) (k6 : I t' 0 = nI m) (hN : N < 1000) (htc : t' ≠ c') (htc2 : t ≠ c') : evM zcod (d + 2) 8 [.ref t', .ref t] (S, I, L) = some (none, (S, uI (cpI I c 0 c' 0 N) t' 3 (nI n), L)) := by
  obtain ⟨h1, h2, h3, h4, h5, h6, h7, h8, h9, h10⟩ := h
  rw [E_X9_become]
  simp only [B_X9_become_0, B_X9_become_41, h1, h2, h3, k1, k2, k3, k4, k5, if_true, true_and, s_min, bI_eq, ite_self]
  have z0 : (nI 0).toInt = 0 := t_nI (by omega)
  have zN : (nI N).toInt = (N : Int) := t_nI (by omega)
  rw [if_pos (by rw [z0, zN]; omega)]
  simp only [zix_nI (show 0 < 2 ^ 31 by omega), zix_nI (show N < 2 ^ 31 by omega), cpI_off htc, cpI_off htc2, k6, h7, bI_eq, if_true]
  by_cases c1 : n < m
  · rw [if_pos (nI_lt c1 (by omega))]
  · rw [if_neg (nI_nlt (by omega) (by omega)), show m = n by omega]
/-- the widths of a State's Things, whatever it holds -/
def Wd (I : mI) (b : Nat) : Prop := I (b + 1) 0 = nI 7 ∧ I (b + 1) 1 = nI 7 ∧ I (b + 3) 0 = nI 5 ∧ I (b + 3) 1 = nI 4 ∧ I (b + 5) 0 = nI 5 ∧ I (b + 5) 1 = nI 4
theorem CS.wd {I : mI} {a : Nat} {P : mP} {r : mW} (h : CS I a P r) : Wd I a := ⟨h.1.1, h.1.2.1, h.2.1.1, h.2.1.2.1, h.2.2.1.1, h.2.2.1.2.1⟩
theorem isSt_apart {a b : Nat} (ha : isSt a = true) (hb : isSt b = true) (h : a ≠ b) : a + 6 < b ∨ b + 6 < a := by
  simp only [isSt, Bool.or_eq_true, Bool.and_eq_true, Nat.beq_eq, Nat.ble_eq] at ha hb
  omega
theorem s_become (d : Nat) {S : mS} {I : mI} {L : mJ} {a b : Nat} {P : mP} {r : mW} (G : Gd S) (ha : isSt a = true) (hb : isSt b = true) (hab : a ≠ b) (hv : PV P) (h : CS I a P r) (hw : Wd I b) : ∃ J, evM zcod (d + 3) 21 [.ref b, .ref a] (S, I, L) = some (none, (S, J, L)) ∧ CS J b P r ∧ Fi (fun x _ => b ≤ x ∧ x ≤ b + 6) I J := by
  have ap := isSt_apart ha hb hab
  obtain ⟨w1, w2, w3, w4, w5, w6⟩ := hw
  have g := gSt G ha
  have g' := gSt G hb
  have v := hv
  obtain ⟨v1, v2, v3, -⟩ := v
  let J1 := uI (cpI I (a + 2) 0 (b + 2) 0 49) (b + 1) 3 (nI (nLo P))
  let J2 := uI (cpI J1 (a + 4) 0 (b + 4) 0 20) (b + 3) 3 (nI (nSi P))
  let J3 := uI (cpI J2 (a + 6) 0 (b + 6) 0 20) (b + 5) 3 (nI (nHo P))
  have f1 : Fi (fun x _ => b ≤ x ∧ x ≤ b + 6) I J1 := Fi.u (Fi.c Fi.rf fun _ => ⟨by omega, by omega⟩) ⟨by omega, by omega⟩
  have f2 : Fi (fun x _ => b ≤ x ∧ x ≤ b + 6) I J2 := f1.tr (Fi.u (Fi.c Fi.rf fun _ => ⟨by omega, by omega⟩) ⟨by omega, by omega⟩)
  have f3 : Fi (fun x _ => b ≤ x ∧ x ≤ b + 6) I J3 := f2.tr (Fi.u (Fi.c Fi.rf fun _ => ⟨by omega, by omega⟩) ⟨by omega, by omega⟩)
  have h1 : CS J1 a P r := h.congI fun x j p q => f1 x j (by omega)
  have h2 : CS J2 a P r := h.congI fun x j p q => f2 x j (by omega)
  have h3 : CS J3 a P r := h.congI fun x j p q => f3 x j (by omega)
  have T0 := h.tl G ha hv
  have T1 := h1.ts G ha hv
  have T2 := h2.th G ha hv
  let J4 := uI J3 b 3 (r 55)
  let J5 := uI J4 b 4 (r 56)
  let J6 := uI J5 b 5 (r 57)
  have f6 : Fi (fun x _ => b ≤ x ∧ x ≤ b + 6) I J6 := Fi.u (Fi.u (Fi.u f3 ⟨by omega, by omega⟩) ⟨by omega, by omega⟩) ⟨by omega, by omega⟩
  have r6 : ∀ x, x ≠ b → ∀ j, J6 x j = J3 x j := fun x q j => (uI_off q).trans ((uI_off q).trans (uI_off q))
  refine ⟨J6, ?_, ?_, f6⟩
  · rw [E_X8_become]
    have e1 : evM zcod (d + 2) 8 [.ref (b + 1), .ref (a + 1)] (S, I, L) = some (none, (S, J1, L)) := s_tbecome d (L := L) T0 g'.2.2.2.2.1 g'.2.2.2.2.2.1 g'.2.2.2.2.2.2.1 g'.2.2.2.2.2.2.2.1 g.2.2.2.2.2.2.2.1 w1 (by omega) (by omega) (by omega)
    have e2 : evM zcod (d + 2) 8 [.ref (b + 3), .ref (a + 3)] (S, J1, L) = some (none, (S, J2, L)) := s_tbecome d (L := L) T1 g'.2.2.2.2.2.2.2.2.1 g'.2.2.2.2.2.2.2.2.2.1 g'.2.2.2.2.2.2.2.2.2.2.1 g'.2.2.2.2.2.2.2.2.2.2.2.1 g.2.2.2.2.2.2.2.2.2.2.2.1 (show J1 (b + 3) 0 = nI 5 from (uI_off (by omega)).trans ((cpI_off (by omega)).trans w3)) (by omega) (by omega) (by omega)
    have e3 : evM zcod (d + 2) 8 [.ref (b + 5), .ref (a + 5)] (S, J2, L) = some (none, (S, J3, L)) := s_tbecome d (L := L) T2 g'.2.2.2.2.2.2.2.2.2.2.2.2.1 g'.2.2.2.2.2.2.2.2.2.2.2.2.2.1 g'.2.2.2.2.2.2.2.2.2.2.2.2.2.2.1 g'.2.2.2.2.2.2.2.2.2.2.2.2.2.2.2 g.2.2.2.2.2.2.2.2.2.2.2.2.2.2.2 (show J2 (b + 5) 0 = nI 5 from (uI_off (by omega)).trans ((cpI_off (by omega)).trans ((uI_off (by omega)).trans ((cpI_off (by omega)).trans w5)))) (by omega) (by omega) (by omega)
    simp only [B_X8_become_0, g, g', if_true, e1, bV_eq, e2, e3, B_X8_become_41, h3.ti.1]
    have t4 : (uI J3 b 3 (r 55)) a 4 = r 56 := (uI_off hab).trans h3.ti.2.1
    have t5 : (uI (uI J3 b 3 (r 55)) b 4 (r 56)) a 5 = r 57 := (uI_off hab).trans ((uI_off hab).trans h3.ti.2.2)
    simp only [t4, t5]
    rfl
  · have a3 : ∀ x j, x ≠ b + 6 → x ≠ b + 5 → J3 x j = J2 x j := fun x j p q => (uI_off q).trans (cpI_off p)
    have a2 : ∀ x j, x ≠ b + 4 → x ≠ b + 3 → J2 x j = J1 x j := fun x j p q => (uI_off q).trans (cpI_off p)
    have c2 : ∀ j, j < 49 → J6 (b + 2) j = I (a + 2) j := fun j hj => by
      rw [r6 _ (by omega), a3 _ _ (by omega) (by omega), a2 _ _ (by omega) (by omega)]
      show uI (cpI I (a + 2) 0 (b + 2) 0 49) (b + 1) 3 (nI (nLo P)) (b + 2) j = _
      rw [uI_off (by omega), cpI_at, if_pos (by omega)]
      congr 1
      omega
    have c4 : ∀ j, j < 20 → J6 (b + 4) j = I (a + 4) j := fun j hj => by
      rw [r6 _ (by omega), a3 _ _ (by omega) (by omega)]
      show uI (cpI J1 (a + 4) 0 (b + 4) 0 20) (b + 3) 3 (nI (nSi P)) (b + 4) j = _
      rw [uI_off (by omega), cpI_at, if_pos (by omega), f1 _ _ (by omega)]
      congr 1
      omega
    have c6 : ∀ j, j < 20 → J6 (b + 6) j = I (a + 6) j := fun j hj => by
      rw [r6 _ (by omega)]
      show uI (cpI J2 (a + 6) 0 (b + 6) 0 20) (b + 5) 3 (nI (nHo P)) (b + 6) j = _
      rw [uI_off (by omega), cpI_at, if_pos (by omega), f2 _ _ (by omega)]
      congr 1
      omega
    refine ⟨⟨?_, ?_, ?_⟩, ⟨?_, ?_, ?_⟩, ⟨?_, ?_, ?_⟩, fun i hi => ?_, fun i hi => ?_, fun i hi => ?_, ?_, ?_, ?_⟩
    · rw [r6 _ (by omega)]
      exact (uI_off (by omega)).trans ((cpI_off (by omega)).trans ((uI_off (by omega)).trans ((cpI_off (by omega)).trans ((uI_ix (by omega)).trans ((cpI_off (by omega)).trans w1)))))
    · rw [r6 _ (by omega)]
      exact (uI_off (by omega)).trans ((cpI_off (by omega)).trans ((uI_off (by omega)).trans ((cpI_off (by omega)).trans ((uI_ix (by omega)).trans ((cpI_off (by omega)).trans w2)))))
    · rw [r6 _ (by omega)]
      exact (uI_off (by omega)).trans ((cpI_off (by omega)).trans ((uI_off (by omega)).trans ((cpI_off (by omega)).trans (uI_same _ _ _ _))))
    · rw [r6 _ (by omega)]
      exact (uI_off (by omega)).trans ((cpI_off (by omega)).trans ((uI_ix (by omega)).trans ((cpI_off (by omega)).trans ((uI_off (by omega)).trans ((cpI_off (by omega)).trans w3)))))
    · rw [r6 _ (by omega)]
      exact (uI_off (by omega)).trans ((cpI_off (by omega)).trans ((uI_ix (by omega)).trans ((cpI_off (by omega)).trans ((uI_off (by omega)).trans ((cpI_off (by omega)).trans w4)))))
    · rw [r6 _ (by omega)]
      exact (uI_off (by omega)).trans ((cpI_off (by omega)).trans (uI_same _ _ _ _))
    · rw [r6 _ (by omega)]
      exact (uI_ix (by omega)).trans ((cpI_off (by omega)).trans ((uI_off (by omega)).trans ((cpI_off (by omega)).trans ((uI_off (by omega)).trans ((cpI_off (by omega)).trans w5)))))
    · rw [r6 _ (by omega)]
      exact (uI_ix (by omega)).trans ((cpI_off (by omega)).trans ((uI_off (by omega)).trans ((cpI_off (by omega)).trans ((uI_off (by omega)).trans ((cpI_off (by omega)).trans w6)))))
    · rw [r6 _ (by omega)]
      exact uI_same _ _ _ _
    · rw [c2 _ (by omega), c2 _ (by omega), c2 _ (by omega), c2 _ (by omega), c2 _ (by omega), c2 _ (by omega), c2 _ (by omega)]
      exact h.lo hi
    · rw [c4 _ (by omega), c4 _ (by omega), c4 _ (by omega), c4 _ (by omega)]
      exact h.si hi
    · rw [c6 _ (by omega), c6 _ (by omega), c6 _ (by omega), c6 _ (by omega)]
      exact h.ho hi
    · exact (uI_ix (by omega)).trans ((uI_ix (by omega)).trans (uI_same _ _ _ _))
    · exact (uI_ix (by omega)).trans (uI_same _ _ _ _)
    · exact uI_same _ _ _ _
