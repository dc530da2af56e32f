/-! told, counted: reference side -/
theorem MC.cg {S : mS} {I J : mI} {P : mP} {v : Nat} (h : MC S I P v) (e0 : J 384 18 = I 384 18) (e : ∀ a, 393 ≤ a → a ≤ 415 → J a = I a) : MC S J P v := by
  obtain ⟨h1, h2, h3, h4, h5, h6, h7, h8, h9, h10, h11, h12⟩ := h
  refine ⟨h1, e0.trans h2, ?_, ?_, ?_, ?_, ?_, ?_, fun i hi => ?_, fun k hk => ?_, fun k hk => ?_, fun k hk K d L q1 q2 => h12 k hk K d L (q1.trans e0) fun a p1 p2 => (q2 a p1 p2).trans (e a (by omega) (by omega))⟩
  · rw [e _ (by omega) (by omega)]; exact h3
  · rw [e _ (by omega) (by omega)]; exact h4
  · rw [e _ (by omega) (by omega)]; exact h5
  · rw [e _ (by omega) (by omega)]; exact h6
  · rw [e _ (by omega) (by omega)]; exact h7
  · rw [e _ (by omega) (by omega)]; exact h8
  · rw [e _ (by omega) (by omega), e _ (by omega) (by omega)]; exact h9 i hi
  · rw [e _ (by omega) (by omega)]; exact h10 k hk
  · rw [e _ (by omega) (by omega), e _ (by omega) (by omega)]; exact h11 k hk
def tmA (a j : Nat) : Prop := (430 ≤ a ∧ a ≤ 434) ∨ a = 384 ∧ j = 74
theorem ZM.tl {S : mS} {I J : mI} {P : mP} {v : Nat} {r : mW} {H : Nat → mW} {dp : Nat} {Q : Nat → mW} {hd : Nat → Bool} {T T' : Nat → Nat → Int32} {nt nt' : Nat} (h : ZM S I P v r H dp Q hd T nt) (t : TV T' nt') (c : TM J T' nt') (f : Fi tmA I J) : ZM S J P v r H dp Q hd T' nt' := by
  obtain ⟨h1, h2, h3, h4, h5, h6, h7, h8, h9⟩ := h
  exact ⟨h1, h2, h3.cg (f _ _ (by unfold tmA; omega)) (fun a p q => f.row a fun j => by unfold tmA; omega), fun j q => (f _ _ (by unfold tmA; omega)).trans (h4 j q), h5.cg (fun j => f _ _ (by unfold tmA; omega)) (f _ _ (by unfold tmA; omega)), h6.cg (fun j => f _ _ (by unfold tmA; omega)) (fun j => f _ _ (by unfold tmA; omega)), t, c, h9⟩
theorem m_is9 (d : Nat) {S : mS} {I : mI} {L : mJ} (x : Int32) : evM zcod (d + 2) 252 [.int x] (S, I, L) = some (some (.int (if okI x (nI 1) (nI 9) = true then nI 1 else nI 0)), (S, I, L)) := by
  rw [E_X12_isDigit9]
  simp only [B_X12_isDigit9_0, m_in, bI_eq, if_true]
  split
  · rw [if_pos (Or.inr rfl)]
  · rw [if_pos (Or.inl rfl)]
theorem q_tell (d : Nat) {S : mS} {I : mI} {L : mJ} {P : mP} {v : Nat} {r : mW} {H : Nat → mW} {dp : Nat} {Q : Nat → mW} {hd : Nat → Bool} {T : Nat → Nat → Int32} {nt : Nat} (G : Gd S) (z : ZM S I P v r H dp Q hd T nt) (w s x h y : Int32) : ∃ J, evM zcod (d + 4) 253 [.ref 384, .int w, .int s, .int x, .int h, .int y] (S, I, L) = some (some (.int (if teOk w s x h y nt = true then nI nt else -1)), (S, J, L)) ∧ (if teOk w s x h y nt = true then ZM S J P v r H dp Q hd (teT T nt w s x h y) (nt + 1) else ZM S J P v r H dp Q hd T nt) ∧ Fi tmA I J := by
  have z' := z
  obtain ⟨hv, hr, hC, hn, hH, hS, hV, hT, -⟩ := z'
  have hnt := hV.1
  have g := gM G
  have no : evk zcod none (d + 3) zc_X12_tell 52 [] [] (S, I, L) = some (some (.int (-1)), (S, I, L)) := B_X12_tell_52 ..
  rw [E_X12_tell]
  simp only [B_X12_tell_0, B_X12_tell_41, g, if_true, hT.1, m_is9, m_in, bI_eq, no]
  unfold teOk
  by_cases c6 : nt = 20
  · rw [if_pos (by rw [c6]), decide_eq_false (show ¬ nt < 20 by omega)]
    simp only [Bool.and_false, Bool.false_eq_true, if_false]
    exact ⟨I, rfl, z, Fi.rf⟩
  rw [if_neg (fun q => c6 ((nI_eq (by omega) (by omega)).mp q)), decide_eq_true (show nt < 20 by omega)]
  cases c1 : okI w (nI 1) (nI 9)
  · simp only [Bool.false_eq_true, if_false, if_true, Bool.false_and]
    exact ⟨I, rfl, z, Fi.rf⟩
  cases c2 : okI s (nI 1) (nI 9)
  · simp only [Bool.false_eq_true, if_false, if_true, Bool.false_and, Bool.and_false, n10]
    exact ⟨I, rfl, z, Fi.rf⟩
  cases c4 : okI h (nI 1) (nI 9)
  · simp only [Bool.false_eq_true, if_false, if_true, Bool.false_and, Bool.and_false, n10]
    exact ⟨I, rfl, z, Fi.rf⟩
  cases c3 : okI x (nI 0) (nI 19)
  · simp only [Bool.false_eq_true, if_false, if_true, Bool.false_and, Bool.and_false, n10]
    exact ⟨I, rfl, z, Fi.rf⟩
  cases c5 : okI y (nI 0) (nI 19)
  · simp only [Bool.false_eq_true, if_false, if_true, Bool.false_and, Bool.and_false, n10, not_true_eq_false]
    exact ⟨I, rfl, z, Fi.rf⟩
  simp only [if_true, n10, if_false, Bool.true_and, not_false_eq_true, Bool.and_self]
  let J1 := uI I 430 nt w
  let J2 := uI J1 431 nt s
  let J3 := uI J2 432 nt x
  let J4 := uI J3 433 nt h
  let J5 := uI J4 434 nt y
  have f5 : Fi tmA I J5 := Fi.u (Fi.u (Fi.u (Fi.u (Fi.u Fi.rf (by unfold tmA; omega)) (by unfold tmA; omega)) (by unfold tmA; omega)) (by unfold tmA; omega)) (by unfold tmA; omega)
  have f6 : Fi tmA I (uI J5 384 74 (nI (nt + 1))) := Fi.u f5 (by unfold tmA; omega)
  have z1 : zin (nI nt) 20 = True := ixT (by omega) (by omega)
  have z2 : zix (nI nt) = nt := ixI (by omega)
  refine ⟨uI J5 384 74 (nI (nt + 1)), ?_, z.tl ⟨by omega, fun i hi => ?_⟩ ⟨uI_same _ _ _ _, fun i hi => ?_⟩ f6, f6⟩
  · rw [B_X12_tell_54]
    simp only [g, if_true, true_and, hT.1, z1, z2, uI_off (show (384 : Nat) ≠ 430 by omega), uI_off (show (384 : Nat) ≠ 431 by omega), uI_off (show (384 : Nat) ≠ 432 by omega), uI_off (show (384 : Nat) ≠ 433 by omega), uI_off (show (384 : Nat) ≠ 434 by omega), B_X12_tell_95, nI_add, uI_same, pk_sub (show 1 ≤ nt + 1 by omega), Nat.add_sub_cancel]
    rfl
  · unfold teT
    by_cases q : i = nt
    · rw [if_pos q, if_pos q]
      obtain ⟨u, hu, rfl⟩ := okI_n c3 (by omega)
      obtain ⟨m, hm, rfl⟩ := okI_19 c4
      show (0 ≤ (nI u).toInt ∧ (nI u).toInt ≤ 19) ∧ ∃ m', m' ≤ 9 ∧ nI m = nI m'
      exact ⟨by rw [t_nI (by omega)]; omega, m, hm, rfl⟩
    · rw [if_neg q, if_neg q]
      exact hV.2 i (by omega)
  · unfold teT
    by_cases q : i = nt
    · subst q
      simp only [if_true]
      refine ⟨?_, ?_, ?_, ?_, ?_⟩
      · exact (uI_off (by omega)).trans ((uI_off (by omega)).trans ((uI_off (by omega)).trans ((uI_off (by omega)).trans ((uI_off (by omega)).trans (uI_same _ _ _ _)))))
      · exact (uI_off (by omega)).trans ((uI_off (by omega)).trans ((uI_off (by omega)).trans ((uI_off (by omega)).trans (uI_same _ _ _ _))))
      · exact (uI_off (by omega)).trans ((uI_off (by omega)).trans ((uI_off (by omega)).trans (uI_same _ _ _ _)))
      · exact (uI_off (by omega)).trans ((uI_off (by omega)).trans (uI_same _ _ _ _))
      · exact (uI_off (by omega)).trans (uI_same _ _ _ _)
    · simp only [if_neg q]
      have e : ∀ a, 430 ≤ a → uI J5 384 74 (nI (nt + 1)) a i = I a i := fun a ha => (uI_off (by omega)).trans ((uI_ix q).trans ((uI_ix q).trans ((uI_ix q).trans ((uI_ix q).trans (uI_ix q)))))
      obtain ⟨t1, t2, t3, t4, t5⟩ := hT.2 i (by omega)
      exact ⟨(e _ (by omega)).trans t1, (e _ (by omega)).trans t2, (e _ (by omega)).trans t3, (e _ (by omega)).trans t4, (e _ (by omega)).trans t5⟩
theorem q_forgetZ (d : Nat) {S : mS} {I : mI} {L : mJ} {P : mP} {v : Nat} {r : mW} {H : Nat → mW} {dp : Nat} {Q : Nat → mW} {hd : Nat → Bool} {T : Nat → Nat → Int32} {nt : Nat} (G : Gd S) (z : ZM S I P v r H dp Q hd T nt) : ∃ J, evM zcod (d + 1) 254 [.ref 384] (S, I, L) = some (some (.int (nI nt)), (S, J, L)) ∧ ZM S J P v r H dp Q hd T 0 ∧ Fi tmA I J := by
  have f : Fi tmA I (uI I 384 74 (nI 0)) := Fi.u Fi.rf (by unfold tmA; omega)
  exact ⟨_, q_forget d G z.2.2.2.2.2.2.2.1, z.tl ⟨by omega, fun i hi => absurd hi (Nat.not_lt_zero i)⟩ ⟨uI_same _ _ _ _, fun i hi => absurd hi (Nat.not_lt_zero i)⟩ f, f⟩
theorem hd_sum {hd : Nat → Bool} : nI (cn hd 3) = ((if hd 0 = true then nI 1 else nI 0) + (if hd 1 = true then nI 1 else nI 0)) + (if hd 2 = true then nI 1 else nI 0) := by
  unfold cn cn cn cn
  cases hd 0 <;> cases hd 1 <;> cases hd 2 <;> decide +kernel
theorem q_count (d : Nat) {S : mS} {I : mI} {L : mJ} {P : mP} {v : Nat} {r : mW} {H : Nat → mW} {dp : Nat} {Q : Nat → mW} {hd : Nat → Bool} {T : Nat → Nat → Int32} {nt tp : Nat} {fp : Int32} {B : Nat → Int32} (G : Gd S) (z : ZM S I P v r H dp Q hd T nt) (hx : XM I tp fp B) (s : Int32) : ∃ J, evM zcod (d + 4) 261 [.ref 384, .int s] (S, I, L) = some (some (.int (aCount P r tp dp nt hd s)), (S, J, L)) ∧ Fi mj I J := by
  have z' := z
  obtain ⟨hv, hr, hC0, hn, hH, hS0, hV, hT, -⟩ := z'
  have g := gM G
  obtain ⟨J, e, r1, s1, f⟩ := m_copies (d + 2) (L := L) G hC0 hn
  have hC := hC0.fi (copA_mj f)
  have hv2 := hC.1
  have hS : ∀ s, s < 3 → J 435 s = if hd s = true then nI 1 else nI 0 := fun s hs => (f _ _ (by omega)).trans (hS0.1 s hs)
  refine ⟨J, ?_, copA_mj f⟩
  rw [E_X12_count]
  simp only [B_X12_count_0, g, if_true, e, bV_eq]
  unfold aCount
  by_cases c0 : s = nI 0
  · rw [if_pos c0, if_pos c0]
    simp only [B_X12_count_84, g, if_true, true_and, hC.2.1, zv2 hC.1, hC.2.2.1]
  rw [if_neg c0, if_neg c0]
  by_cases c1 : s = nI 1
  · rw [if_pos c1, if_pos c1]
    simp only [B_X12_count_94, g, if_true, true_and, hC.2.1, zv2 hC.1, hC.2.2.2.1]
  rw [if_neg c1, if_neg c1]
  by_cases c2 : s = nI 2
  · rw [if_pos c2, if_pos c2]
    simp only [B_X12_count_104, g, if_true, true_and, hC.2.1, zv2 hC.1, hC.2.2.2.2.1]
  rw [if_neg c2, if_neg c2]
  by_cases c3 : s = nI 3
  · rw [if_pos c3, if_pos c3]
    simp only [B_X12_count_114, g, if_true, true_and, zt58, zx, r1 55 (by omega)]
  rw [if_neg c3, if_neg c3]
  by_cases c4 : s = nI 4
  · rw [if_pos c4, if_pos c4]
    simp only [B_X12_count_122, g, if_true, c4, pk_sub (show 4 ≤ 4 by omega), m_loadsSo _ G hv hC r1, bI_eq]
  rw [if_neg c4, if_neg c4]
  by_cases c5 : s = nI 5
  · rw [if_pos c5, if_pos c5]
    simp only [B_X12_count_122, g, if_true, c5, pk_sub (show 4 ≤ 5 by omega), m_loadsSo _ G hv hC r1, bI_eq]
  rw [if_neg c5, if_neg c5]
  by_cases c6 : s = nI 6
  · rw [if_pos c6, if_pos c6]
    simp only [B_X12_count_122, g, if_true, c6, pk_sub (show 4 ≤ 6 by omega), m_loadsSo _ G hv hC r1, bI_eq]
  rw [if_neg c6, if_neg c6]
  by_cases c7 : s = nI 7
  · rw [if_pos c7, if_pos c7]
    simp only [B_X12_count_122, g, if_true, c7, pk_sub (show 4 ≤ 7 by omega), m_loadsSo _ G hv hC r1, bI_eq]
  rw [if_neg c7, if_neg c7]
  by_cases c8 : s = nI 8
  · rw [if_pos c8, if_pos c8]
    simp only [B_X12_count_130, g, if_true, c8, true_and, nI_add, show (48 + 8 : Nat) = 56 from rfl, zt58, zx, r1 56 (by omega)]
  rw [if_neg c8, if_neg c8]
  by_cases c9 : s = nI 9
  · rw [if_pos c9, if_pos c9]
    simp only [B_X12_count_130, g, if_true, c9, true_and, nI_add, show (48 + 9 : Nat) = 57 from rfl, zt58, zx, r1 57 (by omega)]
  rw [if_neg c9, if_neg c9]
  by_cases c10 : s = nI 10
  · rw [if_pos c10, if_pos c10]
    simp only [B_X12_count_140, g, if_true, (f 384 2 (by omega)).trans hx.2.1]
  rw [if_neg c10, if_neg c10]
  by_cases c11 : s = nI 11
  · rw [if_pos c11, if_pos c11]
    simp only [B_X12_count_145, g, if_true, (f 384 59 (by omega)).trans hH.2.1]
  rw [if_neg c11, if_neg c11]
  by_cases c12 : s = nI 12
  · rw [if_pos c12, if_pos c12]
    simp only [B_X12_count_150, g, if_true, (f 384 74 (by omega)).trans hT.1]
  rw [if_neg c12, if_neg c12]
  by_cases c13 : s = nI 13
  · rw [if_pos c13, if_pos c13, hd_sum]
    have y0 : zin (nI 0) 3 = True := ixT (by omega) (by omega)
    have y1 : zin (nI 1) 3 = True := ixT (by omega) (by omega)
    have y2 : zin (nI 2) 3 = True := ixT (by omega) (by omega)
    simp only [B_X12_count_155, B_X12_count_168, g, if_true, true_and, y0, ixI (show 0 < 2147483648 by omega), hS 0 (by omega)]
    have k1 : ∀ s0, evk zcod none (d + 3) zc_X12_count 169 [(0, .ref 384)] [.int s0] (S, J, L) = some (some (.int ((s0 + (if hd 1 = true then nI 1 else nI 0)) + (if hd 2 = true then nI 1 else nI 0))), (S, J, L)) := by
      intro s0
      simp only [B_X12_count_169, B_X12_count_182, g, if_true, true_and, y1, ixI (show 1 < 2147483648 by omega), hS 1 (by omega)]
      have k2 : ∀ s1 s0, evk zcod none (d + 3) zc_X12_count 183 [(0, .ref 384)] [.int s1, .int s0] (S, J, L) = some (some (.int ((s0 + s1) + (if hd 2 = true then nI 1 else nI 0))), (S, J, L)) := by
        intro s1 s0
        simp only [B_X12_count_183, B_X12_count_197, g, if_true, true_and, y2, ixI (show 2 < 2147483648 by omega), hS 2 (by omega)]
        cases hd 2
        · simp only [Bool.false_eq_true, if_false, if_true]
          rw [B_X12_count_198]
        · simp only [if_true, n10, if_false]
          rw [B_X12_count_198]
      cases hd 1
      · simp only [Bool.false_eq_true, if_false, if_true]
        rw [k2]
      · simp only [if_true, n10, if_false]
        rw [k2]
    cases hd 0
    · simp only [Bool.false_eq_true, if_false, if_true]
      rw [k1]
    · simp only [if_true, n10, if_false]
      rw [k1]
  rw [if_neg c13, if_neg c13]
  by_cases c14 : s = nI 14
  · rw [if_pos c14, if_pos c14]
    simp only [B_X12_count_200, g, if_true, m_gust _ G hC r1 s1, bI_eq, B_X12_count_211]
    cases gustS P (sta P 2) (r 55)
    · simp only [Bool.false_eq_true, if_false, if_true]
      rw [B_X12_count_212]
    · simp only [if_true, n10, if_false]
      rw [B_X12_count_212]
  rw [if_neg c14, if_neg c14]
  by_cases c15 : s = nI 15
  · rw [if_pos c15, if_pos c15]
    simp only [B_X12_count_213, g, if_true, true_and, hC.2.1, zv2 hC.1, hC.2.2.2.2.2.1]
  rw [if_neg c15, if_neg c15]
  rw [B_X12_count_223]
