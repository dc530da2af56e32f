/-! flights told, of the reference -/
theorem goS_zero {P : mP} {r : mW} {st sz w pl hour : Int32} : ∀ {n i : Nat} {x hi : Int32}, (goS P r st sz w pl hour n i x hi).2.1 = nI 0 ∨ nI 0 < (goS P r st sz w pl hour n i x hi).2.1
  | 0, _, _, _ => Or.inl rfl
  | n + 1, i, x, hi => by
    unfold goS
    split
    · refine Or.inr ?_
      show nI 0 < (if nhA P r (hld (x + pl + lawW P (hour + nI i) (nI 1) st hi x) (nI 0) (nI 19)) allF = -2 then nI 2 else nI 1)
      split <;> decide +kernel
    · split
      · exact Or.inr (by decide +kernel : nI 0 < nI 3)
      · exact goS_zero
theorem m_isSo (d : Nat) {S : mS} {I : mI} {L : mJ} {P : mP} {v : Nat} {r : mW} (G : Gd S) (hv : PV P) (h : MC S I P v) (hr : RW I r) {T : Nat → Nat → Int32} {nt : Nat} (hT : TV T nt) (ht : TM I T nt) {i : Nat} (hi : i < nt) (pl : Int32) : ∃ J, evM zcod (d + 5) 255 [.ref 384, .int (nI i), .int pl] (S, I, L) = some (some (.int (if fitS P r T pl i = true then nI 1 else nI 0)), (S, J, L)) ∧ Fi mj I J ∧ RW J r := by
  have t20 := hT.1
  obtain ⟨hx, q, hq, e3⟩ := hT.2 i hi
  have z1 : zin (nI i) 20 = True := ixT (by omega) (by omega)
  have z2 : zix (nI i) = i := ixI (by omega)
  have key : ∀ k j, k + j = q → ∀ (I : mI) (x hg : Int32), MC S I P v → RW I r → TM I T nt → (∀ k, k < 5 → I 421 k = nI 0) → I 384 62 = nI 0 → I 384 64 = x → I 384 65 = hg → ∃ J, evk zcod none (d + 4) zc_X12_isSo 12 [(0, .ref 384), (1, .int (nI i)), (2, .int pl), (3, .int (nI j))] [] (S, I, L) = some (some (.int (if (let o := goS P r (stS P r) (T i 0) (T i 1) pl (r 55) k j x hg; decide (o.2.1 = nI 0) && decide (o.2.2.2.1 = T i 4)) = true then nI 1 else nI 0)), (S, J, L)) ∧ Fi mj I J ∧ RW J r := by
    intro k
    induction k with
    | zero =>
      intro j hj I x hg h hr ht h0 e62 e64 e65
      obtain ⟨t0, t1, t2, t3, t4⟩ := ht.2 i hi
      refine ⟨I, ?_, Fi.rf, hr⟩
      rw [B_X12_isSo_12]
      simp only [gM G, if_true, true_and, z1, z2, t3, e3]
      rw [if_pos (nI_le (by omega) (by omega)), B_X12_isSo_64]
      simp only [gM G, if_true, true_and, z1, z2, t4, e64, B_X12_isSo_81, B_X12_isSo_82, b0, b1]
      show _ = some (some (Value.int (if (decide (nI 0 = nI 0) && decide (x = T i 4)) = true then nI 1 else nI 0)), (S, I, L))
      by_cases c : x = T i 4
      · rw [if_neg (fun z => z c), decide_eq_true c, decide_eq_true rfl]; rfl
      · rw [if_pos c, decide_eq_false c, Bool.and_false]; rfl
    | succ k ih =>
      intro j hj I x hg h hr ht h0 e62 e64 e65
      obtain ⟨t0, t1, t2, t3, t4⟩ := ht.2 i hi
      obtain ⟨J, e, j64, j65, j61, f, z, jt⟩ := m_flies d (L := L) G hv h hr h0 (r 55 + nI j) (-1) (T i 0) (T i 1) pl (pv := nI 0) (Or.inl ⟨rfl, rfl⟩) e64 e65 rfl rfl
      rw [B_X12_isSo_12]
      simp only [gM G, if_true, true_and, z1, z2, t3, e3, t0, t1, zt58, zx, hr 55 (by omega), e, bV_eq, B_X12_isSo_58, nI_add]
      rw [if_neg (nI_ge (by omega) (by omega))]
      unfold goS
      by_cases c1 : sta P 0 ≤ hg + lawL P (r 55 + nI j) (nI 1) (stS P r) (T i 0) (T i 1) hg x
      · rw [if_pos c1] at jt
        have t1 := congrArg Prod.fst jt
        simp only at t1
        have nz : ¬ J 384 62 ≤ nI 0 := by
          rw [t1]
          split <;> decide +kernel
        rw [if_neg nz, if_pos c1]
        refine ⟨J, ?_, mf_mj f, hr.mf f⟩
        have : ¬ (if nhA P r (hld (x + pl + lawW P (r 55 + nI j) (nI 1) (stS P r) hg x) (nI 0) (nI 19)) allF = -2 then nI 2 else nI 1) = nI 0 := by
          split <;> decide +kernel
        simp only [decide_eq_false this, Bool.false_and, Bool.false_eq_true, if_false]
      · rw [if_neg c1] at jt
        by_cases c2 : hg + lawL P (r 55 + nI j) (nI 1) (stS P r) (T i 0) (T i 1) hg x ≤ nI 0
        · rw [if_pos c2] at jt
          have t1 := congrArg Prod.fst jt
          simp only at t1
          have nz : ¬ J 384 62 ≤ nI 0 := by rw [t1]; decide +kernel
          rw [if_neg nz, if_neg c1, if_pos c2]
          refine ⟨J, ?_, mf_mj f, hr.mf f⟩
          simp only [decide_eq_false e30, Bool.false_and, Bool.false_eq_true, if_false]
        · rw [if_neg c2] at jt
          have t1 := congrArg Prod.fst jt
          simp only at t1
          have z0 : J 384 62 ≤ nI 0 := by rw [t1, e62]; exact nI_le (by omega) (by omega)
          rw [if_pos z0, if_neg c1, if_neg c2]
          obtain ⟨K, w1, w2, w3⟩ := ih (j + 1) (by omega) J _ _ (h.fi (mf_mj f)) (hr.mf f) (ht.fi (mf_mj f)) z (t1.trans e62) j64 j65
          exact ⟨K, w1, (mf_mj f).tr w2, w3⟩
  obtain ⟨t0, t1, t2, t3, t4⟩ := ht.2 i hi
  obtain ⟨J, e, j1, j2, j3, j4, j5, j6, z, f⟩ := m_beginsFlight (d + 2) (I := I) (L := L) G (T i 2)
  obtain ⟨K, w1, w2, w3⟩ := key q 0 (by omega) J (T i 2) (nI 0) (h.fi (mf_mj f)) (hr.mf f) (ht.fi (mf_mj f)) z j2 j4 j5
  refine ⟨K, ?_, (mf_mj f).tr w2, w3⟩
  rw [E_X12_isSo]
  simp only [B_X12_isSo_0, gM G, if_true, true_and, z1, z2, t2, e, bV_eq, w1]
  unfold fitS
  rw [e3, t_nI (by omega), Int.toNat_natCast]
theorem m_pullBits (d : Nat) {S : mS} {I : mI} {L : mJ} {P : mP} {v : Nat} {r : mW} (G : Gd S) (hv : PV P) (h : MC S I P v) (n : NW I r) {T : Nat → Nat → Int32} {nt : Nat} (hT : TV T nt) (ht : TM I T nt) {k : Nat} (hk : k ≤ nt) : ∃ J, evM zcod (d + 6) 256 [.ref 384, .int (nI k)] (S, I, L) = some (some (.int (nI (pulB P r T k))), (S, J, L)) ∧ Fi mj I J := by
  have t20 := hT.1
  let Q : Nat → Bool := fun w => fitA P r T (nI w - nI 3) k 0
  -- the inner loop
  have inner : ∀ m i, m + i = k → ∀ (w b : Nat), w < 7 → ∀ I, MC S I P v → RW I r → TM I T nt → ∃ J, evk zcod none (d + 5) zc_X12_pullBits 20 [(0, .ref 384), (1, .int (nI k)), (2, .int (nI b)), (3, .int (nI w - nI 3)), (4, .int (nI 1)), (5, .int (nI i))] [] (S, I, L) = evk zcod none (d + 5) zc_X12_pullBits 46 [(0, .ref 384), (1, .int (nI k)), (2, .int (nI b)), (3, .int (nI w - nI 3)), (4, .int (if fitA P r T (nI w - nI 3) m i = true then nI 1 else nI 0))] [] (S, J, L) ∧ Fi mj I J ∧ RW J r := by
    intro m
    induction m with
    | zero =>
      intro i hi w b hw I h hr ht
      refine ⟨I, ?_, Fi.rf, hr⟩
      rw [B_X12_pullBits_20, if_pos (nI_le (by omega) (by omega))]
      rfl
    | succ m ih =>
      intro i hi w b hw I h hr ht
      obtain ⟨J, e, f, rJ⟩ := m_isSo d (L := L) G hv h hr hT ht (show i < nt by omega) (nI w - nI 3)
      have hJ := h.fi f
      have tJ := ht.fi f
      rw [B_X12_pullBits_20, if_neg (nI_ge (by omega) (by omega)), if_neg e10]
      simp only [gM G, if_true, e, bI_eq, nI_add]
      unfold fitA
      cases c : fitS P r T (nI w - nI 3) i
      · simp only [Bool.false_eq_true, if_false, Bool.false_and]
        refine ⟨J, ?_, f, rJ⟩
        rw [B_X12_pullBits_20, if_pos rfl, ite_self]
      · simp only [if_true, Bool.true_and]
        obtain ⟨K, e2, f2, rK⟩ := ih (i + 1) (by omega) w b hw J hJ rJ tJ
        exact ⟨K, e2, f.tr f2, rK⟩
  have key : ∀ m w, m + w = 7 → ∀ I, MC S I P v → RW I r → TM I T nt → ∃ J, evk zcod none (d + 5) zc_X12_pullBits 9 [(0, .ref 384), (1, .int (nI k)), (2, .int (nI (bs Q w))), (3, .int (nI w - nI 3))] [] (S, I, L) = some (some (.int (nI (bs Q 7))), (S, J, L)) ∧ Fi mj I J := by
    intro m
    induction m with
    | zero =>
      intro w hw I h hr ht
      refine ⟨I, ?_, Fi.rf⟩
      rw [B_X12_pullBits_9, if_pos ((m3_gt w (by omega)).mpr (by omega)), B_X12_pullBits_65, show w = 7 by omega]
    | succ m ih =>
      intro w hw I h hr ht
      obtain ⟨J, e, f, rJ⟩ := inner k 0 (by omega) w (bs Q w) (by omega) I h hr ht
      rw [B_X12_pullBits_9, if_neg (fun q => by have := (m3_gt w (by omega)).mp q; omega), e, B_X12_pullBits_46]
      by_cases c : fitA P r T (nI w - nI 3) k 0 = true
      · rw [if_pos c, if_neg e10, B_X12_pullBits_59, bit7 w (by omega), m3_up, bs_or (P := Q) (by omega) c]
        obtain ⟨K, e2, f2⟩ := ih (w + 1) (by omega) J (h.fi f) rJ (ht.fi f)
        exact ⟨K, e2, f.tr f2⟩
      · rw [if_neg c, if_pos rfl, B_X12_pullBits_59, m3_up, bs_no (P := Q) c]
        obtain ⟨K, e2, f2⟩ := ih (w + 1) (by omega) J (h.fi f) rJ (ht.fi f)
        exact ⟨K, e2, f.tr f2⟩
  obtain ⟨J1, e1, r1, s1, f1⟩ := m_copies (d + 4) (L := L) G h n
  obtain ⟨J, e, f⟩ := key 7 0 (by omega) J1 (h.fi (copA_mj f1)) r1 (ht.fi (copA_mj f1))
  refine ⟨J, ?_, (copA_mj f1).tr f⟩
  rw [E_X12_pullBits]
  simp only [B_X12_pullBits_0, gM G, if_true, e1, bV_eq]
  rw [← m3_0]
  exact e
theorem q_pulls (d : Nat) {S : mS} {I : mI} {L : mJ} {P : mP} {v : Nat} {r : mW} (G : Gd S) (hv : PV P) (h : MC S I P v) (n : NW I r) {T : Nat → Nat → Int32} {nt : Nat} (hT : TV T nt) (ht : TM I T nt) (k what : Int32) : ∃ J, evM zcod (d + 7) 257 [.ref 384, .int k, .int what] (S, I, L) = some (some (.int (aPulls P r T nt k what)), (S, J, L)) ∧ Fi mj I J := by
  have t20 := hT.1
  rw [E_X12_pulls]
  simp only [B_X12_pulls_0, B_X12_pulls_21, gM G, if_true, ht.1, m_in, bI_eq]
  unfold aPulls
  cases c1 : okI k (nI 0) (nI nt)
  · simp only [Bool.false_eq_true, if_false, if_true, Bool.false_and]
    exact ⟨I, rfl, Fi.rf⟩
  · cases c2 : okI what (nI 0) (nI 1)
    · simp only [Bool.false_eq_true, if_false, if_true, Bool.and_false, n10, not_true_eq_false]
      exact ⟨I, rfl, Fi.rf⟩
    · obtain ⟨m, hm, rfl⟩ := okI_n c1 (by omega)
      obtain ⟨J, e, f⟩ := m_pullBits d (L := L) G hv h n hT ht hm
      refine ⟨J, ?_, f⟩
      simp only [if_true, n10, if_false, not_false_eq_true, Bool.and_self, B_X12_pulls_23, gM G, e, bI_eq, t_nI (show m < 2147483648 by omega), Int.toNat_natCast, B_X12_pulls_40, B_X12_pulls_41, m_bits _ (bs_lt (fun w => fitA P r T (nI w - nI 3) m 0) 7), pulB]
      by_cases w0 : what = nI 0
      · rw [if_neg (fun q => q w0), if_pos w0]
      · rw [if_pos w0, if_neg w0]
theorem q_sure (d : Nat) {S : mS} {I : mI} {L : mJ} {P : mP} {v : Nat} {r : mW} (G : Gd S) (hv : PV P) (h : MC S I P v) (n : NW I r) {T : Nat → Nat → Int32} {nt : Nat} (hT : TV T nt) (ht : TM I T nt) (k : Int32) : ∃ J, evM zcod (d + 7) 258 [.ref 384, .int k] (S, I, L) = some (some (.int (aSure P r T nt k)), (S, J, L)) ∧ Fi mj I J := by
  have t20 := hT.1
  rw [E_X12_sure]
  simp only [B_X12_sure_0, gM G, if_true, ht.1, m_in, bI_eq]
  unfold aSure
  cases c1 : okI k (nI 0) (nI nt)
  · simp only [Bool.false_eq_true, if_false, not_true_eq_false]
    exact ⟨I, rfl, Fi.rf⟩
  · obtain ⟨m, hm, rfl⟩ := okI_n c1 (by omega)
    obtain ⟨J, e, f⟩ := m_pullBits d (L := L) G hv h n hT ht hm
    refine ⟨J, ?_, f⟩
    simp only [if_true, n10, not_false_eq_true, B_X12_sure_16, gM G, e, bI_eq, t_nI (show m < 2147483648 by omega), Int.toNat_natCast]
    rw [← m3_0]
    have key : ∀ q w, q + w = 7 → evk zcod none (d + 6) zc_X12_sure 25 [(2, .int (nI (pulB P r T m))), (3, .int (nI w - nI 3))] [] (S, J, L) = some (some (.int (surF (pulB P r T m) q w)), (S, J, L)) := by
      intro q
      induction q with
      | zero =>
        intro w hw
        rw [B_X12_sure_25, if_pos ((m3_gt w (by omega)).mpr (by omega)), B_X12_sure_47]
        rfl
      | succ q ih =>
        intro w hw
        rw [B_X12_sure_25, if_neg (fun q => by have := (m3_gt w (by omega)).mp q; omega), bit7 w (by omega), B_X12_sure_41, m3_up]
        unfold surF
        by_cases c : nI (pulB P r T m) = nI 1 <<< (nI w &&& nI 31)
        · rw [if_neg (fun z => z c), if_pos c]
        · rw [if_pos c, if_neg c]
          exact ih (w + 1) (by omega)
    exact key 7 0 (by omega)
