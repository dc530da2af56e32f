/-! what the reference answers, third group: waiting, hours tried -/
theorem m_gain (d : Nat) {S : mS} {I : mI} {L : mJ} {P : mP} {v : Nat} {r : mW} (G : Gd S) (hv : PV P) (h : MC S I P v) (hr : RW I r) {a b : Nat} (ha : a < nLo P) (hb : b < nSi P) (w : Int32) : ∃ J K, evM zcod (d + 6) 234 [.ref 384, .int (nI a), .int (nI b), .int w, .int (r (40 + b))] (S, I, L) = some (none, (S, J, L)) ∧ evM zcod (d + 6) 209 [.ref 384, .int (r 55 + w), .int (nI 0), .int (sta P (30 + b)), .int (sta P (10 + a))] (S, J, L) = some (some (.int (lawT P (r 55 + w) (nI 0) (stS P r) (sta P (30 + b)) (sta P (10 + a)))), (S, K, L)) ∧ J 384 66 = earnS P r a b (r (40 + b)) w ∧ MC S J P v ∧ RW J r ∧ MC S K P v ∧ RW K r ∧ Fi mj I K := by
  obtain ⟨J, e, f, j1, j2, j3, j4, j5⟩ := m_fliesFrom d (L := L) G hv h hr ha hb w (r (40 + b))
  have h1 := h.fi (mf_mj f)
  have r1 := hr.mf f
  obtain ⟨K, e2, f2⟩ := m_tiesBy (d + 3) (L := L) G hv h1 r1 (r 55 + w) (nI 0) (sta P (30 + b)) (sta P (10 + a))
  exact ⟨J, K, e, e2, j5, h1, r1, h1.fi (mk_mj f2), r1.mk f2, (mf_mj f).tr (mk_mj f2)⟩
theorem q_waits (d : Nat) {S : mS} {I : mI} {L : mJ} {P : mP} {v : Nat} {r : mW} (G : Gd S) (hv : PV P) (hr : RV P r) (h : MC S I P v) (n : NW I r) (i k what : Int32) : ∃ J, evM zcod (d + 7) 247 [.ref 384, .int i, .int k, .int what] (S, I, L) = some (some (.int (aWaits P r i k what)), (S, J, L)) ∧ Fi mj I J := by
  have v1 := hv.1
  have v2 := hv.2.1
  have hv2 := h.1
  rw [E_X12_waits]
  simp only [B_X12_waits_0, B_X12_waits_27, gM G, if_true, m_areBoth _ G hv h, m_in, bI_eq]
  unfold aWaits
  cases c1 : inN i (nLo P) && inN k (nSi P)
  · simp only [if_false, Bool.false_eq_true, if_true, rdy_no c1, Bool.false_and]
    exact ⟨I, rfl, Fi.rf⟩
  · cases c2 : okI what (nI 0) (nI 1)
    · simp only [if_true, n10, if_false, Bool.false_eq_true, Bool.and_false]
      exact ⟨I, rfl, Fi.rf⟩
    · obtain ⟨a, b, ha, hb, rfl, rfl⟩ := foot3 (h := what) c1
      simp only [if_true, n10, if_false, m_areAtFoot _ G hv hr n ha hb, bI_eq]
      cases c4 : rdy P r (nI a) (nI b)
      · simp only [if_false, Bool.false_eq_true, not_true_eq_false, Bool.false_and]
        exact ⟨I, B_X12_waits_27 .., Fi.rf⟩
      · obtain ⟨J1, e1, r1, s1, f1⟩ := m_copies (d + 5) (L := L) G h n
        have h1 := h.fi (copA_mj f1)
        simp only [if_true, n10, not_false_eq_true, Bool.and_self, B_X12_waits_31, gM G, e1, bV_eq, t_nI (show a < 2147483648 by omega), t_nI (show b < 2147483648 by omega), Int.toNat_natCast]
        have z1 : zin (nI (40 + b)) 58 = True := ixT (by omega) (by omega)
        have z2 : zix (nI (40 + b)) = 40 + b := ixI (by omega)
        have z3 : zin (nI (5 * v + b)) 10 = True := ixT (by omega) (by omega)
        have z4 : zix (nI (5 * v + b)) = 5 * v + b := ixI (by omega)
        have z5 : zin (nI (7 * v + a)) 14 = True := ixT (by omega) (by omega)
        have z6 : zix (nI (7 * v + a)) = 7 * v + a := ixI (by omega)
        have step : ∀ w, w < 25 → ∀ I best most, MC S I P v → RW I r → ∃ K, MC S K P v ∧ RW K r ∧ Fi mj I K ∧ evk zcod none (d + 6) zc_X12_waits 44 [(0, .ref 384), (1, .int (nI a)), (2, .int (nI b)), (3, .int what), (4, .int best), (5, .int most), (6, .int (nI w))] [] (S, I, L) = if best < nI 0 ∨ most < gainS P r a b (nI w) then evk zcod none (d + 6) zc_X12_waits 44 [(0, .ref 384), (1, .int (nI a)), (2, .int (nI b)), (3, .int what), (4, .int (nI w)), (5, .int (gainS P r a b (nI w))), (6, .int (nI (w + 1)))] [] (S, K, L) else evk zcod none (d + 6) zc_X12_waits 44 [(0, .ref 384), (1, .int (nI a)), (2, .int (nI b)), (3, .int what), (4, .int best), (5, .int most), (6, .int (nI (w + 1)))] [] (S, K, L) := by
          intro w hw I best most h r1
          obtain ⟨J, K, e2, e3, j66, hJ, rJ, hK, rK, f⟩ := m_gain d (L := L) G hv h r1 ha hb (nI w)
          refine ⟨K, hK, rK, f, ?_⟩
          rw [B_X12_waits_44, if_neg (nI_nlt (by omega) (by omega))]
          simp only [gM G, if_true, true_and, nI_add, pk_mul, z1, z2, z3, z4, z5, z6, zt58, zx, r1 (40 + b) (by omega), e2, bV_eq, rJ 55 (by omega), hJ.2.1, hJ.2.2.2.2.2.2.2.2.2.1 b hb, (hJ.2.2.2.2.2.2.2.2.1 a ha).1, e3, bI_eq, j66, B_X12_waits_135, B_X12_waits_143]
          rw [show earnS P r a b (r (40 + b)) (nI w) - lawT P (r 55 + nI w) (nI 0) (stS P r) (sta P (30 + b)) (sta P (10 + a)) - nI w = gainS P r a b (nI w) from rfl]
          by_cases q1 : best < nI 0
          · rw [if_pos q1, if_pos (Or.inl q1)]
          · rw [if_neg q1]
            by_cases q2 : most < gainS P r a b (nI w)
            · rw [if_pos q2, if_pos (Or.inr q2)]
            · rw [if_neg q2, if_neg (by rintro (q | q); exact q1 q; exact q2 q)]
        have key : ∀ m w, m + w = 25 → ∀ I (b0 : Nat) most, b0 < 25 → MC S I P v → RW I r → ∃ J, evk zcod none (d + 6) zc_X12_waits 44 [(0, .ref 384), (1, .int (nI a)), (2, .int (nI b)), (3, .int what), (4, .int (nI b0)), (5, .int most), (6, .int (nI w))] [] (S, I, L) = some (some (.int (let o := waiF P r a b m w (nI b0) most; if what = nI 0 then o.1 else o.2)), (S, J, L)) ∧ Fi mj I J := by
          intro m
          induction m with
          | zero =>
            intro w hw I b0 most hb0 h r1
            refine ⟨I, ?_, Fi.rf⟩
            rw [B_X12_waits_44, if_pos (nI_lt (by omega) (by omega)), B_X12_waits_149]
            simp only [B_X12_waits_158, B_X12_waits_160]
            unfold waiF
            by_cases c : what = nI 0
            · rw [if_neg (fun q => q c), if_pos c]
            · rw [if_pos c, if_neg c]
          | succ m ih =>
            intro w hw I b0 most hb0 h r1
            obtain ⟨K, hK, rK, f, e⟩ := step w (by omega) I (nI b0) most h r1
            rw [e]
            unfold waiF
            by_cases c : gainS P r a b (nI w) ≤ most
            · rw [if_pos c, if_neg (by
                rintro (q | q)
                · exact nI_nlt (by omega) (by omega) q
                · rw [i_lt] at q; rw [i_le] at c; omega)]
              obtain ⟨J, e3, f3⟩ := ih (w + 1) (by omega) K b0 most hb0 hK rK
              exact ⟨J, e3, f.tr f3⟩
            · rw [if_neg c, if_pos (Or.inr (by rw [i_lt]; rw [i_le] at c; omega))]
              obtain ⟨J, e3, f3⟩ := ih (w + 1) (by omega) K w _ (by omega) hK rK
              exact ⟨J, e3, f.tr f3⟩
        obtain ⟨K, hK, rK, f, e⟩ := step 0 (by omega) J1 (-1) (nI 0) h1 r1
        rw [e, if_pos (Or.inl (by decide +kernel))]
        obtain ⟨J, e3, f3⟩ := key 24 1 (by omega) K 0 _ (by omega) hK rK
        exact ⟨J, e3, ((copA_mj f1).tr f).tr f3⟩
theorem m_isLong (d : Nat) {S : mS} {I : mI} {L : mJ} (n : Int32) : evM zcod (d + 2) 248 [.int n] (S, I, L) = some (some (.int (if okI n (nI 0) (nI 72) = true then nI 1 else nI 0)), (S, I, L)) := by
  rw [E_X12_isLong]
  simp only [B_X12_isLong_0, m_in, bI_eq, if_true]
  cases okI n (nI 0) (nI 72) <;> simp
theorem q_then (d : Nat) {S : mS} {I : mI} {L : mJ} {P : mP} {v : Nat} {r : mW} (G : Gd S) (hv : PV P) (hr : RV P r) (h : MC S I P v) (n : NW I r) (i m what : Int32) : ∃ J, evM zcod (d + 7) 249 [.ref 384, .int i, .int m, .int what] (S, I, L) = some (some (.int (aThen P r i m what)), (S, J, L)) ∧ Fi mj I J := by
  have v1 := hv.1
  rw [E_X12_then]
  simp only [B_X12_then_0, B_X12_then_24, gM G, if_true, m_isLoad _ G hv h, m_isLong, m_in, bI_eq]
  unfold aThen
  cases c1 : inN i (nLo P)
  · simp only [Bool.false_and, Bool.false_eq_true, if_false, if_true]
    exact ⟨I, rfl, Fi.rf⟩
  · cases c2 : okI m (nI 0) (nI 72)
    · simp only [Bool.and_false, Bool.false_and, Bool.false_eq_true, if_false, if_true, n10]
      exact ⟨I, rfl, Fi.rf⟩
    · cases c3 : okI what (nI 0) (nI 2)
      · simp only [Bool.and_false, Bool.false_and, Bool.false_eq_true, if_false, if_true, n10, not_true_eq_false]
        exact ⟨I, rfl, Fi.rf⟩
      · obtain ⟨a, ha, rfl⟩ := inN_of c1
        obtain ⟨k, hk, rfl⟩ := okI_n c2 (by omega)
        obtain ⟨J1, e1, r1, s1, f1⟩ := m_copies (d + 5) (L := L) G h n
        obtain ⟨J2, e2, r2, f2⟩ := m_goes d (L := L) G hv (sd := sta P 2) (show k < 100 by omega) hr (h.fi (copA_mj f1)) r1 s1
        have z1 : zin (nI (7 + a)) 58 = True := ixT (by omega) (by omega)
        have z2 : zix (nI (7 + a)) = 7 + a := ixI (by omega)
        have z3 : zin (nI (14 + a)) 58 = True := ixT (by omega) (by omega)
        have z4 : zix (nI (14 + a)) = 14 + a := ixI (by omega)
        have z5 : zin (nI a) 58 = True := ixT (by omega) (by omega)
        have z6 : zix (nI a) = a := ixI (by omega)
        simp only [Bool.and_self, if_true, n10, if_false, not_false_eq_true, B_X12_then_26, B_X12_then_51, B_X12_then_65, B_X12_then_74, gM G, e1, bV_eq, e2, true_and, nI_add, z1, z2, z3, z4, z5, z6, r2 (7 + a) (by omega), r2 (14 + a) (by omega), r2 a (by omega), t_nI (show a < 2147483648 by omega), t_nI (show k < 2147483648 by omega), Int.toNat_natCast]
        refine ⟨J2, ?_, (copA_mj f1).tr (hg_mj f2)⟩
        by_cases d1 : what = nI 0
        · rw [if_neg (fun q => q d1), if_pos d1]
        · rw [if_pos d1, if_neg d1]
          by_cases d2 : what = nI 1
          · rw [if_neg (fun q => q d2), if_pos d2]
          · rw [if_pos d2, if_neg d2]
theorem q_earns (d : Nat) {S : mS} {I : mI} {L : mJ} {P : mP} {v : Nat} {r : mW} (G : Gd S) (hv : PV P) (hr : RV P r) (h : MC S I P v) (n : NW I r) (m : Int32) : ∃ J, evM zcod (d + 7) 250 [.ref 384, .int m] (S, I, L) = some (some (.int (aEarns P r m)), (S, J, L)) ∧ Fi mj I J := by
  rw [E_X12_earns]
  simp only [B_X12_earns_0, gM G, if_true, m_isLong, bI_eq]
  unfold aEarns
  cases c2 : okI m (nI 0) (nI 72)
  · simp only [Bool.false_eq_true, if_false, not_true_eq_false]
    exact ⟨I, rfl, Fi.rf⟩
  · obtain ⟨k, hk, rfl⟩ := okI_n c2 (by omega)
    obtain ⟨J1, e1, r1, s1, f1⟩ := m_copies (d + 5) (L := L) G h n
    obtain ⟨J2, e2, r2, f2⟩ := m_goes d (L := L) G hv (sd := sta P 2) (show k < 100 by omega) hr (h.fi (copA_mj f1)) r1 s1
    have n2 := (n.fi (copA_mj f1)).fi (hg_mj f2)
    simp only [if_true, n10, not_false_eq_true, B_X12_earns_9, gM G, e1, bV_eq, e2, true_and, zt58, zx, r2 56 (by omega), n2 56 (by omega), t_nI (show k < 2147483648 by omega), Int.toNat_natCast]
    exact ⟨J2, rfl, (copA_mj f1).tr (hg_mj f2)⟩
theorem q_year (d : Nat) {S : mS} {I : mI} {L : mJ} {P : mP} {v : Nat} {r : mW} (G : Gd S) (hv : PV P) (hr : RV P r) (h : MC S I P v) (n : NW I r) (i m s : Int32) : ∃ J, evM zcod (d + 7) 251 [.ref 384, .int i, .int m, .int s] (S, I, L) = some (some (.int (aYear P r i m s)), (S, J, L)) ∧ Fi mj I J := by
  have v1 := hv.1
  rw [E_X12_year]
  simp only [B_X12_year_0, B_X12_year_25, B_X12_year_27, gM G, if_true, m_isLoad _ G hv h, m_isLong, m_in, bI_eq]
  unfold aYear
  cases c1 : inN i (nLo P)
  · simp only [Bool.false_and, Bool.false_eq_true, if_false, if_true]
    exact ⟨I, rfl, Fi.rf⟩
  · cases c2 : okI m (nI 0) (nI 72)
    · simp only [Bool.and_false, Bool.false_and, Bool.false_eq_true, if_false, if_true, n10]
      exact ⟨I, rfl, Fi.rf⟩
    · cases c3 : okI s (nI 1) (nI 20)
      · simp only [Bool.and_false, Bool.false_and, Bool.false_eq_true, if_false, if_true, n10, not_true_eq_false]
        exact ⟨I, rfl, Fi.rf⟩
      · simp only [Bool.and_self, if_true, n10, if_false, not_false_eq_true]
        obtain ⟨a, ha, rfl⟩ := inN_of c1
        obtain ⟨k, hk, rfl⟩ := okI_n c2 (by omega)
        obtain ⟨q, hq, rfl⟩ : ∃ q, q ≤ 20 ∧ s = nI q := by
          unfold okI at c3
          have q := of_decide_eq_true c3
          rw [i_le, i_le, t_nI (by omega), t_nI (by omega)] at q
          obtain ⟨m, w1, w2⟩ := i_of2 (x := s) (n := 21) (by omega) (by omega)
          exact ⟨m, by omega, w2⟩
        have z1 : zin (nI (7 + a)) 58 = True := ixT (by omega) (by omega)
        have z2 : zix (nI (7 + a)) = 7 + a := ixI (by omega)
        have key : ∀ j w, j + w = q → ∀ (I : mI) (c : Nat), c ≤ w → MC S I P v → NW I r → ∃ J, evk zcod none (d + 6) zc_X12_year 33 [(0, .ref 384), (1, .int (nI a)), (2, .int (nI k)), (3, .int (nI q)), (4, .int (nI c)), (5, .int (nI w))] [] (S, I, L) = some (some (.int (nI (yeaF P r a k (sta P 2 + nI w) j c))), (S, J, L)) ∧ Fi mj I J := by
          intro j
          induction j with
          | zero =>
            intro w hw I c hc h n
            refine ⟨I, ?_, Fi.rf⟩
            rw [B_X12_year_33, if_pos (nI_le (by omega) (by omega)), B_X12_year_81]
            rfl
          | succ j ih =>
            intro w hw I c hc h n
            obtain ⟨J1, e1, r1, s1, f1⟩ := m_copies (d + 5) (L := L) G h n
            let J2 := uI J1 384 54 (sta P 2 + nI w)
            have f2 : Fi mj J1 J2 := Fi.u Fi.rf (by unfold mj; omega)
            have r2 : RW J2 r := fun j q => (uI_off (by omega)).trans (r1 j q)
            have h2 := (h.fi (copA_mj f1)).fi f2
            obtain ⟨J3, e3, r3, f3⟩ := m_goes d (L := L) G hv (sd := sta P 2 + nI w) (show k < 100 by omega) hr h2 r2 (uI_same _ _ _ _)
            have fa := ((copA_mj f1).tr f2).tr (hg_mj f3)
            rw [B_X12_year_33, if_neg (nI_ge (by omega) (by omega))]
            simp only [gM G, if_true, e1, bV_eq, s1]
            rw [show uI J1 384 54 (sta P 2 + nI w) = J2 from rfl, e3]
            simp only [bV_eq, if_true, gM G, true_and, nI_add, z1, z2, r3 (7 + a) (by omega), B_X12_year_75]
            unfold yeaF
            by_cases q : goesS P (sta P 2 + nI w) k r (7 + a) = nI 2
            · rw [if_neg (fun z => z q), if_pos q]
              obtain ⟨K, e2, f4⟩ := ih (w + 1) (by omega) J3 (c + 1) (by omega) (h.fi fa) (n.fi fa)
              rw [← nI_add w 1, ← Int32.add_assoc] at e2
              exact ⟨K, by rw [← e2, nI_add], fa.tr f4⟩
            · rw [if_pos q, if_neg q]
              obtain ⟨K, e2, f4⟩ := ih (w + 1) (by omega) J3 c (by omega) (h.fi fa) (n.fi fa)
              rw [← nI_add w 1, ← Int32.add_assoc] at e2
              exact ⟨K, by rw [← e2, nI_add], fa.tr f4⟩
        have z0 : sta P 2 + nI 0 = sta P 2 := by rw [nI_0]; exact Int32.add_zero _
        obtain ⟨J, e, f⟩ := key q 0 (by omega) I 0 (by omega) h n
        rw [z0] at e
        refine ⟨J, ?_, f⟩
        rw [e, t_nI (by omega), t_nI (by omega), t_nI (by omega)]
        rfl
