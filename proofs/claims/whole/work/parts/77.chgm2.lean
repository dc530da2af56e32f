/-! tie, move, patch, hours, undo: reference side -/
theorem ZM.ch {S : mS} {I J : mI} {P : mP} {v : Nat} {r r' : mW} {H H' : Nat → mW} {dp dp' : Nat} {Q : Nat → mW} {hd : Nat → Bool} {T : Nat → Nat → Int32} {nt : Nat} (h : ZM S I P v r H dp Q hd T nt) (hr : RV P r') (n : NW J r') (hH : HM J H' dp') (hh : ∀ i, i < dp' → RV P (H' i)) (f : Fi chM I J) : ZM S J P v r' H' dp' Q hd T nt := by
  obtain ⟨h1, h2, h3, h4, h5, h6, h7, h8, h9, h10⟩ := h
  exact ⟨h1, hr, h3.ch f, n, hH, h6.cg (fun j => f _ _ (by unfold chM mj; omega)) (fun j => f _ _ (by unfold chM mj; omega)), h7, h8.cg (f _ _ (by unfold chM mj; omega)) (fun x j p q => f _ _ (by unfold chM mj; omega)), hh, h10⟩
theorem pu_RV {P : mP} {r : mW} {H : Nat → mW} {dp m : Nat} (hr : RV P r) (hh : ∀ i, i < dp → RV P (H i)) : ∀ i, i < min (dp + 1) m → RV P (pu r H i)
  | 0, _ => hr
  | i + 1, q => hh i (by omega)
theorem RW.up {I : mI} {r : mW} (h : RW I r) {k : Nat} (w : Int32) : RW (uI I 420 k w) (ur r k w) := fun j hj => by
  by_cases c : j = k
  · rw [c, uI_same, ur_s]
  · rw [uI_ix c, ur_n c]
    exact h j hj
theorem tie_sw {r : mW} {a b : Nat} {X : Int32} (ha : a < 7) (hb : b < 5) : ur (tieR r a b) 57 X = ur (ur (ur (ur (ur (ur r 57 X) (7 + a) (nI 1)) (14 + a) (nI 0)) (21 + a) (nI b)) (35 + b) (nI a)) (45 + b) (r (45 + b) + nI 1) := by
  funext j
  unfold tieR
  by_cases w : j = 57
  · subst w
    rw [ur_s, ur_n (by omega), ur_n (by omega), ur_n (by omega), ur_n (by omega), ur_n (by omega), ur_s]
  · rw [ur_n w]
    unfold ur
    simp only [if_neg w]
theorem rec_ch {I J : mI} (f : Fi (fun a j => a = 419 ∨ a = 425 ∨ a = 384 ∧ j = 59) I J) : Fi chM I J := f.up fun a j q => by unfold chM; omega
theorem mj_ch {I J : mI} (f : Fi mj I J) : Fi chM I J := f.up fun a j q => Or.inl q
theorem q_tie (d : Nat) {S : mS} {I : mI} {L : mJ} {P : mP} {v : Nat} {r : mW} {H : Nat → mW} {dp : Nat} {Q : Nat → mW} {hd : Nat → Bool} {T : Nat → Nat → Int32} {nt : Nat} (G : Gd S) (z : ZM S I P v r H dp Q hd T nt) (i k : Int32) : ∃ J, evM zcod (d + 6) 226 [.ref 384, .int i, .int k] (S, I, L) = some (some (.int (aTie P r i k)), (S, J, L)) ∧ (if rdy P r i k = true then ZM S J P v (tieZ P r i k) (pu r H) (min (dp + 1) 40) Q hd T nt else ZM S J P v r H dp Q hd T nt) ∧ Fi chM I J := by
  have z' := z
  obtain ⟨hv, hr, h, n, hH, -, -, -, hh, -⟩ := z'
  have v1 := hv.1
  have v2 := hv.2.1
  have hv2 := h.1
  rw [E_X12_tie]
  simp only [B_X12_tie_0, B_X12_tie_11, gM G, if_true, m_areBoth _ G hv h, bI_eq]
  cases c1 : inN i (nLo P) && inN k (nSi P)
  · have ea : aTie P r i k = -1 := by
      unfold aTie
      rw [c1]
      rfl
    simp only [rdy_no c1, Bool.false_eq_true, if_false, not_true_eq_false, ea]
    exact ⟨I, rfl, z, Fi.rf⟩
  · obtain ⟨a, b, ha, hb, rfl, rfl⟩ := foot3 (h := nI 0) c1
    simp only [if_true, n10, if_false, not_false_eq_true, m_areAtFoot _ G hv hr n ha hb, bI_eq]
    cases c4 : rdy P r (nI a) (nI b)
    · have ea : aTie P r (nI a) (nI b) = -2 := by
        unfold aTie
        rw [c1, c4]
        rfl
      simp only [Bool.false_eq_true, if_false, not_true_eq_false, ea]
      exact ⟨I, rfl, z, Fi.rf⟩
    · have ea : aTie P r (nI a) (nI b) = lawT P (r 55) (upS P r) (stS P r) (sta P (30 + b)) (sta P (10 + a)) := by
        unfold aTie
        rw [c1, c4, if_pos rfl, if_pos rfl, t_nI (by omega), t_nI (by omega), Int.toNat_natCast, Int.toNat_natCast]
        rfl
      have e7 : r (7 + a) = nI 0 ∧ r (35 + b) = -2 := by
        rw [rdy_nI hv ha hb] at c4
        simpa using c4
      obtain ⟨J1, e1, r1, s1, f1⟩ := m_copies (d + 4) (L := L) G h n
      have h1 := h.fi (copA_mj f1)
      obtain ⟨J2, e2, f2⟩ := m_tiesBy (d + 2) (L := L) G hv h1 r1 (r 55) (upS P r) (sta P (30 + b)) (sta P (10 + a))
      have r2 := r1.mk f2
      let X := r 57 + lawT P (r 55) (upS P r) (stS P r) (sta P (30 + b)) (sta P (10 + a))
      have r3 := (((((r2.up (k := 57) X).up (k := 7 + a) (nI 1)).up (k := 14 + a) (nI 0)).up (k := 21 + a) (nI b)).up (k := 35 + b) (nI a)).up (k := 45 + b) (r (45 + b) + nI 1)
      rw [← tie_sw (by omega) (by omega)] at r3
      have f3 : Fi mj I (uI (uI (uI (uI (uI (uI J2 420 57 X) 420 (7 + a) (nI 1)) 420 (14 + a) (nI 0)) 420 (21 + a) (nI b)) 420 (35 + b) (nI a)) 420 (45 + b) (r (45 + b) + nI 1)) := Fi.u (Fi.u (Fi.u (Fi.u (Fi.u (Fi.u ((copA_mj f1).tr (mk_mj f2)) (by unfold mj; omega)) (by unfold mj; omega)) (by unfold mj; omega)) (by unfold mj; omega)) (by unfold mj; omega)) (by unfold mj; omega)
      have n3 := n.fi f3
      have H3 := hH.cg (fun j => f3 425 j (by unfold mj; omega)) (f3 384 59 (by unfold mj; omega))
      obtain ⟨K, eK, hK, nK, fK⟩ := m_records (d + 3) (L := L) G n3 r3 H3
      have eR : tieZ P r (nI a) (nI b) = ur (tieR r a b) 57 X := by
        unfold tieZ
        rw [t_nI (by omega), t_nI (by omega), Int.toNat_natCast, Int.toNat_natCast, ea]
      have fF : Fi chM I K := (mj_ch f3).tr (rec_ch fK)
      refine ⟨K, ?_, ?_, fF⟩
      · have z1 : zin (nI (7 + a)) 58 = True := ixT (by omega) (by omega)
        have z2 : zix (nI (7 + a)) = 7 + a := ixI (by omega)
        have z3 : zin (nI (14 + a)) 58 = True := ixT (by omega) (by omega)
        have z4 : zix (nI (14 + a)) = 14 + a := ixI (by omega)
        have z5 : zin (nI (21 + a)) 58 = True := ixT (by omega) (by omega)
        have z6 : zix (nI (21 + a)) = 21 + a := ixI (by omega)
        have z7 : zin (nI (35 + b)) 58 = True := ixT (by omega) (by omega)
        have z8 : zix (nI (35 + b)) = 35 + b := ixI (by omega)
        have z9 : zin (nI (45 + b)) 58 = True := ixT (by omega) (by omega)
        have z10 : zix (nI (45 + b)) = 45 + b := ixI (by omega)
        have y1 : zin (nI (5 * v + b)) 10 = True := ixT (by omega) (by omega)
        have y2 : zix (nI (5 * v + b)) = 5 * v + b := ixI (by omega)
        have y3 : zin (nI (7 * v + a)) 14 = True := ixT (by omega) (by omega)
        have y4 : zix (nI (7 * v + a)) = 7 * v + a := ixI (by omega)
        have e45 : (uI (uI (uI (uI (uI J2 420 57 X) 420 (7 + a) (nI 1)) 420 (14 + a) (nI 0)) 420 (21 + a) (nI b)) 420 (35 + b) (nI a)) 420 (45 + b) = r (45 + b) := by
          rw [uI_ix (by omega), uI_ix (by omega), uI_ix (by omega), uI_ix (by omega), uI_ix (by omega)]
          exact r2 _ (by omega)
        have eX : r 57 + lawT P (r 55) (upS P r) (stS P r) (sta P (30 + b)) (sta P (10 + a)) = X := rfl
        simp only [if_true, n10, not_false_eq_true, B_X12_tie_23, gM G, e1, bV_eq, true_and, h1.2.1, pk_mul, nI_add, y1, y2, y3, y4, zt58, zx, (h1.2.2.2.2.2.2.2.2.1 a ha).1, m_upNow _ G hv h1 r1, bI_eq, r1 55 (by omega), h1.2.2.2.2.2.2.2.2.2.1 b hb, e2, r2 57 (by omega), B_X12_tie_81, z1, z2, z3, z4, z5, z6, z7, z8, B_X12_tie_121, z9, z10, eX, e45, eK, ea]
      · rw [eR]
        exact z.ch ((hr.tie hv ha hb e7.1 e7.2).un hv (Or.inr (by omega)) _) nK hK (pu_RV hr hh) fF
theorem q_move (d : Nat) {S : mS} {I : mI} {L : mJ} {P : mP} {v : Nat} {r : mW} {H : Nat → mW} {dp : Nat} {Q : Nat → mW} {hd : Nat → Bool} {T : Nat → Nat → Int32} {nt : Nat} (G : Gd S) (z : ZM S I P v r H dp Q hd T nt) (k x : Int32) : ∃ J, evM zcod (d + 6) 227 [.ref 384, .int k, .int x] (S, I, L) = some (some (.int (if mvOk P r k x = true then nI 1 else nI 0)), (S, J, L)) ∧ (if mvOk P r k x = true then ZM S J P v (ur r (50 + k.toInt.toNat) x) (pu r H) (min (dp + 1) 40) Q hd T nt else ZM S J P v r H dp Q hd T nt) ∧ Fi chM I J := by
  have z' := z
  obtain ⟨hv, hr, h, n, hH, -, -, -, hh, -⟩ := z'
  have v3 := hv.2.2.1
  rw [E_X12_move]
  simp only [B_X12_move_0, gM G, if_true, m_isHook _ G hv h, m_in, bI_eq]
  unfold mvOk
  cases c1 : inN k (nHo P)
  · simp only [Bool.false_eq_true, if_false, if_true, Bool.false_and]
    exact ⟨I, B_X12_move_31 .., z, Fi.rf⟩
  · cases c2 : okI x (nI 0) (nI 19)
    · simp only [Bool.false_eq_true, if_false, if_true, Bool.false_and, Bool.and_false, n10]
      exact ⟨I, B_X12_move_31 .., z, Fi.rf⟩
    · obtain ⟨b, hb, rfl⟩ := inN_of c1
      have z1 : zin (nI (50 + b)) 58 = True := ixT (by omega) (by omega)
      have z2 : zix (nI (50 + b)) = 50 + b := ixI (by omega)
      simp only [if_true, n10, if_false, Bool.true_and, t_nI (show b < 2147483648 by omega), Int.toNat_natCast, gM G, true_and, nI_add, z1, z2, n (50 + b) (by omega)]
      by_cases c3 : r (50 + b) = x
      · rw [if_neg (fun q => q c3), decide_eq_true c3]
        exact ⟨I, by rw [B_X12_move_31]; rfl, z, Fi.rf⟩
      · rw [if_pos c3, decide_eq_false c3]
        simp only [Bool.not_false, if_true]
        obtain ⟨u, hu, rfl⟩ := okI_n c2 (by omega)
        obtain ⟨J1, e1, r1, s1, f1⟩ := m_copies (d + 4) (L := L) G h n
        have r3 := r1.up (k := 50 + b) (nI u)
        have f3 : Fi mj I (uI J1 420 (50 + b) (nI u)) := Fi.u (copA_mj f1) (by unfold mj; omega)
        obtain ⟨K, eK, hK, nK, fK⟩ := m_records (d + 3) (L := L) G (n.fi f3) r3 (hH.cg (fun j => f3 425 j (by unfold mj; omega)) (f3 384 59 (by unfold mj; omega)))
        have fF : Fi chM I K := (mj_ch f3).tr (rec_ch fK)
        refine ⟨K, ?_, z.ch (hr.move hv hb (by rw [t_nI (by omega)]; omega)) nK hK (pu_RV hr hh) fF, fF⟩
        simp only [B_X12_move_33, gM G, if_true, e1, bV_eq, true_and, nI_add, z1, z2, eK]
theorem pa_eq {P : mP} {r : mW} (hv : PV P) (hr : RV P r) {b : Nat} (hb : b < nSi P) (w : Int32) : okI (paV P r (nI b) w) (-3) (nI 3) = !decide (r (40 + b) = if w = nI 0 then -3 else nI 3) := by
  have v2 := hv.2.1
  obtain ⟨q1, q2⟩ := (hr.2.1 b hb).1
  have e : ∃ m, m < 7 ∧ r (40 + b) = nI m - nI 3 := ⟨((r (40 + b)).toInt + 3).toNat, by omega, by
    have := i_of (x := r (40 + b) + nI 3) (by
      rw [Int32.toInt_add, t_nI (by omega), Int.bmod_eq_of_le (by omega) (by omega)]
      omega)
    rw [Int32.toInt_add, t_nI (by omega), Int.bmod_eq_of_le (by omega) (by omega)] at this
    rw [show (((3 : Nat) : Int)) = 3 from rfl] at this
    rw [← this, Int32.add_sub_cancel]⟩
  obtain ⟨m, hm, e⟩ := e
  unfold paV
  rw [t_nI (by omega), Int.toNat_natCast, e]
  by_cases c : w = nI 0
  · rw [if_pos c, if_pos c]
    have : ∀ m, m < 7 → okI (nI m - nI 3 + -1) (-3) (nI 3) = !decide (nI m - nI 3 = -3) := by decide +kernel
    exact this m hm
  · rw [if_neg c, if_neg c]
    have : ∀ m, m < 7 → okI (nI m - nI 3 + nI 1) (-3) (nI 3) = !decide (nI m - nI 3 = nI 3) := by decide +kernel
    exact this m hm
theorem q_patch (d : Nat) {S : mS} {I : mI} {L : mJ} {P : mP} {v : Nat} {r : mW} {H : Nat → mW} {dp : Nat} {Q : Nat → mW} {hd : Nat → Bool} {T : Nat → Nat → Int32} {nt : Nat} (G : Gd S) (z : ZM S I P v r H dp Q hd T nt) (k w : Int32) : ∃ J, evM zcod (d + 6) 228 [.ref 384, .int k, .int w] (S, I, L) = some (some (.int (if paOk P r k w = true then nI 1 else nI 0)), (S, J, L)) ∧ (if paOk P r k w = true then ZM S J P v (ur r (40 + k.toInt.toNat) (paV P r k w)) (pu r H) (min (dp + 1) 40) Q hd T nt else ZM S J P v r H dp Q hd T nt) ∧ Fi chM I J := by
  have z' := z
  obtain ⟨hv, hr, h, n, hH, -, -, -, hh, -⟩ := z'
  have v2 := hv.2.1
  rw [E_X12_patch]
  simp only [B_X12_patch_0, gM G, if_true, m_isSilk _ G hv h, bI_eq]
  unfold paOk ftS
  cases c1 : inN k (nSi P)
  · simp only [Bool.false_eq_true, if_false, if_true, Bool.false_and]
    exact ⟨I, B_X12_patch_42 .., z, Fi.rf⟩
  · obtain ⟨b, hb, rfl⟩ := inN_of c1
    have z1 : zin (nI (40 + b)) 58 = True := ixT (by omega) (by omega)
    have z2 : zix (nI (40 + b)) = 40 + b := ixI (by omega)
    have z3 : zin (nI (35 + b)) 58 = True := ixT (by omega) (by omega)
    have z4 : zix (nI (35 + b)) = 35 + b := ixI (by omega)
    simp only [if_true, n10, if_false, Bool.true_and, t_nI (show b < 2147483648 by omega), Int.toNat_natCast, gM G, true_and, nI_add, z1, z2, z3, z4, n (40 + b) (by omega), n (35 + b) (by omega)]
    rcases hr.foot hb hv with ⟨q1, q2⟩ | ⟨q1, q2⟩
    · rw [if_neg q2, decide_eq_true q1, pa_eq hv hr hb]
      have ev : (if w = nI 0 then evk zcod none (d + 5) zc_X12_patch 37 [(0, .ref 384), (1, .int (nI b)), (2, .int w)] [.int (r (40 + b))] (S, I, L) else evk zcod none (d + 5) zc_X12_patch 39 [(0, .ref 384), (1, .int (nI b)), (2, .int w)] [.int (nI 3), .int (r (40 + b))] (S, I, L)) = evk zcod none (d + 5) zc_X12_patch 39 [(0, .ref 384), (1, .int (nI b)), (2, .int w)] [.int (if w = nI 0 then -3 else nI 3), .int (r (40 + b))] (S, I, L) := by
        split
        · rw [B_X12_patch_37]
        · rfl
      rw [ev, B_X12_patch_39]
      by_cases c3 : r (40 + b) = if w = nI 0 then -3 else nI 3
      · rw [if_neg (fun q => q c3), decide_eq_true c3]
        exact ⟨I, by rw [B_X12_patch_42]; rfl, z, Fi.rf⟩
      · have c5 := pa_eq hv hr hb w
        rw [if_pos c3, decide_eq_false c3]
        rw [decide_eq_false c3] at c5
        simp only [Bool.not_false, if_true, Bool.and_self]
        obtain ⟨J1, e1, r1, s1, f1⟩ := m_copies (d + 4) (L := L) G h n
        have r3 := r1.up (k := 40 + b) (paV P r (nI b) w)
        have f3 : Fi mj I (uI J1 420 (40 + b) (paV P r (nI b) w)) := Fi.u (copA_mj f1) (by unfold mj; omega)
        obtain ⟨K, eK, hK, nK, fK⟩ := m_records (d + 3) (L := L) G (n.fi f3) r3 (hH.cg (fun j => f3 425 j (by unfold mj; omega)) (f3 384 59 (by unfold mj; omega)))
        have fF : Fi chM I K := (mj_ch f3).tr (rec_ch fK)
        refine ⟨K, ?_, z.ch (hr.patch hv hb (okI_33 c5)) nK hK (pu_RV hr hh) fF, fF⟩
        have eV : paV P r (nI b) w = r (40 + b) + (if w = nI 0 then -1 else nI 1) := by
          unfold paV
          rw [t_nI (by omega), Int.toNat_natCast]
        have ev2 : ∀ M, (if w = nI 0 then evk zcod none (d + 5) zc_X12_patch 66 [(0, .ref 384)] [.int (r (40 + b)), .int (nI (40 + b)), .ref 420] M else evk zcod none (d + 5) zc_X12_patch 67 [(0, .ref 384)] [.int (nI 1), .int (r (40 + b)), .int (nI (40 + b)), .ref 420] M) = evk zcod none (d + 5) zc_X12_patch 67 [(0, .ref 384)] [.int (if w = nI 0 then -1 else nI 1), .int (r (40 + b)), .int (nI (40 + b)), .ref 420] M := by
          intro M
          obtain ⟨S', I', L'⟩ := M
          split
          · rw [B_X12_patch_66]
          · rfl
        simp only [B_X12_patch_44, gM G, if_true, e1, bV_eq, true_and, nI_add, z1, z2, r1 (40 + b) (by omega), ev2]
        rw [B_X12_patch_67, ← eV]
        simp only [gM G, if_true, true_and, z1, z2, eK, bV_eq]
    · rw [if_pos q2, decide_eq_false q1]
      simp only [Bool.false_and, Bool.false_eq_true, if_false]
      exact ⟨I, B_X12_patch_42 .., z, Fi.rf⟩
theorem q_hours (d : Nat) {S : mS} {I : mI} {L : mJ} {P : mP} {v : Nat} {r : mW} {H : Nat → mW} {dp : Nat} {Q : Nat → mW} {hd : Nat → Bool} {T : Nat → Nat → Int32} {nt : Nat} (G : Gd S) (z : ZM S I P v r H dp Q hd T nt) (m : Int32) : ∃ J, evM zcod (d + 7) 229 [.ref 384, .int m] (S, I, L) = some (some (.int (if hoOk m = true then hoR P r m 55 else -1)), (S, J, L)) ∧ (if (hoOk m && !decide (m = nI 0)) = true then ZM S J P v (hoR P r m) (pu r H) (min (dp + 1) 40) Q hd T nt else ZM S J P v r H dp Q hd T nt) ∧ Fi chM I J := by
  have z' := z
  obtain ⟨hv, hr, h, n, hH, -, -, -, hh, -⟩ := z'
  rw [E_X12_hours]
  simp only [B_X12_hours_0, m_in, bI_eq, if_true]
  unfold hoOk
  cases c1 : okI m (nI 0) (nI 72)
  · simp only [Bool.false_eq_true, if_false, not_true_eq_false, Bool.false_and]
    exact ⟨I, rfl, z, Fi.rf⟩
  · obtain ⟨t, ht, rfl⟩ := okI_n c1 (by omega)
    simp only [if_true, n10, not_false_eq_true, Bool.true_and, B_X12_hours_12, gM G, true_and, zt58, zx]
    unfold hoR
    rw [t_nI (by omega), Int.toNat_natCast]
    by_cases c2 : t = 0
    · subst c2
      rw [if_neg (fun q => q rfl)]
      exact ⟨I, by rw [n 55 (by omega)]; rfl, z, Fi.rf⟩
    · have c2' : ¬ nI t = nI 0 := fun q => c2 ((nI_eq (by omega) (by omega)).mp q)
      rw [if_pos c2', decide_eq_false c2']
      obtain ⟨J1, e1, r1, s1, f1⟩ := m_copies (d + 5) (L := L) G h n
      obtain ⟨J2, e2, r2, f2⟩ := m_goes d (L := L) G hv (n := t) (by omega) hr (h.fi (copA_mj f1)) r1 s1
      have f3 : Fi mj I J2 := (copA_mj f1).tr (hg_mj f2)
      obtain ⟨K, eK, hK, nK, fK⟩ := m_records (d + 4) (L := L) G (n.fi f3) r2 (hH.cg (fun j => f3 425 j (by unfold mj; omega)) (f3 384 59 (by unfold mj; omega)))
      have fF : Fi chM I K := (mj_ch f3).tr (rec_ch fK)
      refine ⟨K, ?_, z.ch (goes_RV hv t hr) nK hK (pu_RV hr hh) fF, fF⟩
      simp only [B_X12_hours_24, gM G, if_true, e1, bV_eq, e2, eK, true_and, zt58, zx, nK 55 (by omega)]
