/-! a place of a State's cells and its place in the row -/
def ur (r : mW) (k : Nat) (v : Int32) : mW := fun j => if j = k then v else r j
theorem ur_s (r : mW) (k : Nat) (v : Int32) : ur r k v k = v := if_pos rfl
theorem ur_n {r : mW} {k j : Nat} {v : Int32} (h : j ≠ k) : ur r k v j = r j := if_neg h
theorem CS.u0 {I : mI} {a : Nat} {P : mP} {r : mW} (h : CS I a P r) (hv : PV P) {i : Nat} (hi : i < nLo P) (v : Int32) : CS (uI I (a + 2) (i * 7 + 0) v) a P (ur r i v) := by
  obtain ⟨⟨a1, a2, a3⟩, ⟨b1, b2, b3⟩, ⟨c1, c2, c3⟩, hl, hs, hh, t1, t2, t3⟩ := h
  obtain ⟨v1, v2, v3, -⟩ := hv
  have hR : ∀ m, m ≠ i → ur r i v m = r m := fun m q => if_neg q
  refine ⟨⟨(uI_off (by omega)).trans a1, (uI_off (by omega)).trans a2, (uI_off (by omega)).trans a3⟩, ⟨(uI_off (by omega)).trans b1, (uI_off (by omega)).trans b2, (uI_off (by omega)).trans b3⟩, ⟨(uI_off (by omega)).trans c1, (uI_off (by omega)).trans c2, (uI_off (by omega)).trans c3⟩, fun i1 h1 => ?_, fun i1 h1 => ?_, fun i1 h1 => ?_, ?_, ?_, ?_⟩
  · obtain ⟨q0, q1, q2, q3, q4, q5, q6⟩ := hl i1 h1
    by_cases e : i1 = i
    · subst e
      exact ⟨(uI_same _ _ _ _).trans (ur_s _ _ _).symm, (uI_ix (by omega)).trans q1, (uI_ix (by omega)).trans q2, (uI_ix (by omega)).trans (q3.trans (hR _ (by omega)).symm), (uI_ix (by omega)).trans (q4.trans (hR _ (by omega)).symm), (uI_ix (by omega)).trans (q5.trans (hR _ (by omega)).symm), (uI_ix (by omega)).trans (q6.trans (hR _ (by omega)).symm)⟩
    · exact ⟨(uI_ix (by omega)).trans (q0.trans (hR _ (by omega)).symm), (uI_ix (by omega)).trans q1, (uI_ix (by omega)).trans q2, (uI_ix (by omega)).trans (q3.trans (hR _ (by omega)).symm), (uI_ix (by omega)).trans (q4.trans (hR _ (by omega)).symm), (uI_ix (by omega)).trans (q5.trans (hR _ (by omega)).symm), (uI_ix (by omega)).trans (q6.trans (hR _ (by omega)).symm)⟩
  · obtain ⟨q0, q1, q2, q3⟩ := hs i1 h1
    exact ⟨(uI_off (by omega)).trans q0, (uI_off (by omega)).trans (q1.trans (hR _ (by omega)).symm), (uI_off (by omega)).trans (q2.trans (hR _ (by omega)).symm), (uI_off (by omega)).trans (q3.trans (hR _ (by omega)).symm)⟩
  · obtain ⟨q0, q1, q2, q3⟩ := hh i1 h1
    have qc : cauB P (ur r i v) i1 = cauB P r i1 := bs_cong fun m hm => by
      show decide (ur r i v (28 + m) = nI i1) = decide (r (28 + m) = nI i1)
      rw [hR (28 + m) (by omega)]
    exact ⟨(uI_off (by omega)).trans (q0.trans (hR _ (by omega)).symm), (uI_off (by omega)).trans q1, (uI_off (by omega)).trans q2, (uI_off (by omega)).trans (by rw [qc]; exact q3)⟩
  · exact (uI_off (by omega)).trans (t1.trans (hR _ (by omega)).symm)
  · exact (uI_off (by omega)).trans (t2.trans (hR _ (by omega)).symm)
  · exact (uI_off (by omega)).trans (t3.trans (hR _ (by omega)).symm)
theorem CS.u3 {I : mI} {a : Nat} {P : mP} {r : mW} (h : CS I a P r) (hv : PV P) {i : Nat} (hi : i < nLo P) (v : Int32) : CS (uI I (a + 2) (i * 7 + 3) v) a P (ur r (7 + i) v) := by
  obtain ⟨⟨a1, a2, a3⟩, ⟨b1, b2, b3⟩, ⟨c1, c2, c3⟩, hl, hs, hh, t1, t2, t3⟩ := h
  obtain ⟨v1, v2, v3, -⟩ := hv
  have hR : ∀ m, m ≠ (7 + i) → ur r (7 + i) v m = r m := fun m q => if_neg q
  refine ⟨⟨(uI_off (by omega)).trans a1, (uI_off (by omega)).trans a2, (uI_off (by omega)).trans a3⟩, ⟨(uI_off (by omega)).trans b1, (uI_off (by omega)).trans b2, (uI_off (by omega)).trans b3⟩, ⟨(uI_off (by omega)).trans c1, (uI_off (by omega)).trans c2, (uI_off (by omega)).trans c3⟩, fun i1 h1 => ?_, fun i1 h1 => ?_, fun i1 h1 => ?_, ?_, ?_, ?_⟩
  · obtain ⟨q0, q1, q2, q3, q4, q5, q6⟩ := hl i1 h1
    by_cases e : i1 = i
    · subst e
      exact ⟨(uI_ix (by omega)).trans (q0.trans (hR _ (by omega)).symm), (uI_ix (by omega)).trans q1, (uI_ix (by omega)).trans q2, (uI_same _ _ _ _).trans (ur_s _ _ _).symm, (uI_ix (by omega)).trans (q4.trans (hR _ (by omega)).symm), (uI_ix (by omega)).trans (q5.trans (hR _ (by omega)).symm), (uI_ix (by omega)).trans (q6.trans (hR _ (by omega)).symm)⟩
    · exact ⟨(uI_ix (by omega)).trans (q0.trans (hR _ (by omega)).symm), (uI_ix (by omega)).trans q1, (uI_ix (by omega)).trans q2, (uI_ix (by omega)).trans (q3.trans (hR _ (by omega)).symm), (uI_ix (by omega)).trans (q4.trans (hR _ (by omega)).symm), (uI_ix (by omega)).trans (q5.trans (hR _ (by omega)).symm), (uI_ix (by omega)).trans (q6.trans (hR _ (by omega)).symm)⟩
  · obtain ⟨q0, q1, q2, q3⟩ := hs i1 h1
    exact ⟨(uI_off (by omega)).trans q0, (uI_off (by omega)).trans (q1.trans (hR _ (by omega)).symm), (uI_off (by omega)).trans (q2.trans (hR _ (by omega)).symm), (uI_off (by omega)).trans (q3.trans (hR _ (by omega)).symm)⟩
  · obtain ⟨q0, q1, q2, q3⟩ := hh i1 h1
    have qc : cauB P (ur r (7 + i) v) i1 = cauB P r i1 := bs_cong fun m hm => by
      show decide (ur r (7 + i) v (28 + m) = nI i1) = decide (r (28 + m) = nI i1)
      rw [hR (28 + m) (by omega)]
    exact ⟨(uI_off (by omega)).trans (q0.trans (hR _ (by omega)).symm), (uI_off (by omega)).trans q1, (uI_off (by omega)).trans q2, (uI_off (by omega)).trans (by rw [qc]; exact q3)⟩
  · exact (uI_off (by omega)).trans (t1.trans (hR _ (by omega)).symm)
  · exact (uI_off (by omega)).trans (t2.trans (hR _ (by omega)).symm)
  · exact (uI_off (by omega)).trans (t3.trans (hR _ (by omega)).symm)
theorem CS.u4 {I : mI} {a : Nat} {P : mP} {r : mW} (h : CS I a P r) (hv : PV P) {i : Nat} (hi : i < nLo P) (v : Int32) : CS (uI I (a + 2) (i * 7 + 4) v) a P (ur r (14 + i) v) := by
  obtain ⟨⟨a1, a2, a3⟩, ⟨b1, b2, b3⟩, ⟨c1, c2, c3⟩, hl, hs, hh, t1, t2, t3⟩ := h
  obtain ⟨v1, v2, v3, -⟩ := hv
  have hR : ∀ m, m ≠ (14 + i) → ur r (14 + i) v m = r m := fun m q => if_neg q
  refine ⟨⟨(uI_off (by omega)).trans a1, (uI_off (by omega)).trans a2, (uI_off (by omega)).trans a3⟩, ⟨(uI_off (by omega)).trans b1, (uI_off (by omega)).trans b2, (uI_off (by omega)).trans b3⟩, ⟨(uI_off (by omega)).trans c1, (uI_off (by omega)).trans c2, (uI_off (by omega)).trans c3⟩, fun i1 h1 => ?_, fun i1 h1 => ?_, fun i1 h1 => ?_, ?_, ?_, ?_⟩
  · obtain ⟨q0, q1, q2, q3, q4, q5, q6⟩ := hl i1 h1
    by_cases e : i1 = i
    · subst e
      exact ⟨(uI_ix (by omega)).trans (q0.trans (hR _ (by omega)).symm), (uI_ix (by omega)).trans q1, (uI_ix (by omega)).trans q2, (uI_ix (by omega)).trans (q3.trans (hR _ (by omega)).symm), (uI_same _ _ _ _).trans (ur_s _ _ _).symm, (uI_ix (by omega)).trans (q5.trans (hR _ (by omega)).symm), (uI_ix (by omega)).trans (q6.trans (hR _ (by omega)).symm)⟩
    · exact ⟨(uI_ix (by omega)).trans (q0.trans (hR _ (by omega)).symm), (uI_ix (by omega)).trans q1, (uI_ix (by omega)).trans q2, (uI_ix (by omega)).trans (q3.trans (hR _ (by omega)).symm), (uI_ix (by omega)).trans (q4.trans (hR _ (by omega)).symm), (uI_ix (by omega)).trans (q5.trans (hR _ (by omega)).symm), (uI_ix (by omega)).trans (q6.trans (hR _ (by omega)).symm)⟩
  · obtain ⟨q0, q1, q2, q3⟩ := hs i1 h1
    exact ⟨(uI_off (by omega)).trans q0, (uI_off (by omega)).trans (q1.trans (hR _ (by omega)).symm), (uI_off (by omega)).trans (q2.trans (hR _ (by omega)).symm), (uI_off (by omega)).trans (q3.trans (hR _ (by omega)).symm)⟩
  · obtain ⟨q0, q1, q2, q3⟩ := hh i1 h1
    have qc : cauB P (ur r (14 + i) v) i1 = cauB P r i1 := bs_cong fun m hm => by
      show decide (ur r (14 + i) v (28 + m) = nI i1) = decide (r (28 + m) = nI i1)
      rw [hR (28 + m) (by omega)]
    exact ⟨(uI_off (by omega)).trans (q0.trans (hR _ (by omega)).symm), (uI_off (by omega)).trans q1, (uI_off (by omega)).trans q2, (uI_off (by omega)).trans (by rw [qc]; exact q3)⟩
  · exact (uI_off (by omega)).trans (t1.trans (hR _ (by omega)).symm)
  · exact (uI_off (by omega)).trans (t2.trans (hR _ (by omega)).symm)
  · exact (uI_off (by omega)).trans (t3.trans (hR _ (by omega)).symm)
theorem CS.u5 {I : mI} {a : Nat} {P : mP} {r : mW} (h : CS I a P r) (hv : PV P) {i : Nat} (hi : i < nLo P) (v : Int32) : CS (uI I (a + 2) (i * 7 + 5) v) a P (ur r (21 + i) v) := by
  obtain ⟨⟨a1, a2, a3⟩, ⟨b1, b2, b3⟩, ⟨c1, c2, c3⟩, hl, hs, hh, t1, t2, t3⟩ := h
  obtain ⟨v1, v2, v3, -⟩ := hv
  have hR : ∀ m, m ≠ (21 + i) → ur r (21 + i) v m = r m := fun m q => if_neg q
  refine ⟨⟨(uI_off (by omega)).trans a1, (uI_off (by omega)).trans a2, (uI_off (by omega)).trans a3⟩, ⟨(uI_off (by omega)).trans b1, (uI_off (by omega)).trans b2, (uI_off (by omega)).trans b3⟩, ⟨(uI_off (by omega)).trans c1, (uI_off (by omega)).trans c2, (uI_off (by omega)).trans c3⟩, fun i1 h1 => ?_, fun i1 h1 => ?_, fun i1 h1 => ?_, ?_, ?_, ?_⟩
  · obtain ⟨q0, q1, q2, q3, q4, q5, q6⟩ := hl i1 h1
    by_cases e : i1 = i
    · subst e
      exact ⟨(uI_ix (by omega)).trans (q0.trans (hR _ (by omega)).symm), (uI_ix (by omega)).trans q1, (uI_ix (by omega)).trans q2, (uI_ix (by omega)).trans (q3.trans (hR _ (by omega)).symm), (uI_ix (by omega)).trans (q4.trans (hR _ (by omega)).symm), (uI_same _ _ _ _).trans (ur_s _ _ _).symm, (uI_ix (by omega)).trans (q6.trans (hR _ (by omega)).symm)⟩
    · exact ⟨(uI_ix (by omega)).trans (q0.trans (hR _ (by omega)).symm), (uI_ix (by omega)).trans q1, (uI_ix (by omega)).trans q2, (uI_ix (by omega)).trans (q3.trans (hR _ (by omega)).symm), (uI_ix (by omega)).trans (q4.trans (hR _ (by omega)).symm), (uI_ix (by omega)).trans (q5.trans (hR _ (by omega)).symm), (uI_ix (by omega)).trans (q6.trans (hR _ (by omega)).symm)⟩
  · obtain ⟨q0, q1, q2, q3⟩ := hs i1 h1
    exact ⟨(uI_off (by omega)).trans q0, (uI_off (by omega)).trans (q1.trans (hR _ (by omega)).symm), (uI_off (by omega)).trans (q2.trans (hR _ (by omega)).symm), (uI_off (by omega)).trans (q3.trans (hR _ (by omega)).symm)⟩
  · obtain ⟨q0, q1, q2, q3⟩ := hh i1 h1
    have qc : cauB P (ur r (21 + i) v) i1 = cauB P r i1 := bs_cong fun m hm => by
      show decide (ur r (21 + i) v (28 + m) = nI i1) = decide (r (28 + m) = nI i1)
      rw [hR (28 + m) (by omega)]
    exact ⟨(uI_off (by omega)).trans (q0.trans (hR _ (by omega)).symm), (uI_off (by omega)).trans q1, (uI_off (by omega)).trans q2, (uI_off (by omega)).trans (by rw [qc]; exact q3)⟩
  · exact (uI_off (by omega)).trans (t1.trans (hR _ (by omega)).symm)
  · exact (uI_off (by omega)).trans (t2.trans (hR _ (by omega)).symm)
  · exact (uI_off (by omega)).trans (t3.trans (hR _ (by omega)).symm)
theorem CS.s1 {I : mI} {a : Nat} {P : mP} {r : mW} (h : CS I a P r) (hv : PV P) {i : Nat} (hi : i < nSi P) (v : Int32) : CS (uI I (a + 4) (i * 4 + 1) v) a P (ur r (35 + i) v) := by
  obtain ⟨⟨a1, a2, a3⟩, ⟨b1, b2, b3⟩, ⟨c1, c2, c3⟩, hl, hs, hh, t1, t2, t3⟩ := h
  obtain ⟨v1, v2, v3, -⟩ := hv
  have hR : ∀ m, m ≠ (35 + i) → ur r (35 + i) v m = r m := fun m q => if_neg q
  refine ⟨⟨(uI_off (by omega)).trans a1, (uI_off (by omega)).trans a2, (uI_off (by omega)).trans a3⟩, ⟨(uI_off (by omega)).trans b1, (uI_off (by omega)).trans b2, (uI_off (by omega)).trans b3⟩, ⟨(uI_off (by omega)).trans c1, (uI_off (by omega)).trans c2, (uI_off (by omega)).trans c3⟩, fun i1 h1 => ?_, fun i1 h1 => ?_, fun i1 h1 => ?_, ?_, ?_, ?_⟩
  · obtain ⟨q0, q1, q2, q3, q4, q5, q6⟩ := hl i1 h1
    exact ⟨(uI_off (by omega)).trans (q0.trans (hR _ (by omega)).symm), (uI_off (by omega)).trans q1, (uI_off (by omega)).trans q2, (uI_off (by omega)).trans (q3.trans (hR _ (by omega)).symm), (uI_off (by omega)).trans (q4.trans (hR _ (by omega)).symm), (uI_off (by omega)).trans (q5.trans (hR _ (by omega)).symm), (uI_off (by omega)).trans (q6.trans (hR _ (by omega)).symm)⟩
  · obtain ⟨q0, q1, q2, q3⟩ := hs i1 h1
    by_cases e : i1 = i
    · subst e
      exact ⟨(uI_ix (by omega)).trans q0, (uI_same _ _ _ _).trans (ur_s _ _ _).symm, (uI_ix (by omega)).trans (q2.trans (hR _ (by omega)).symm), (uI_ix (by omega)).trans (q3.trans (hR _ (by omega)).symm)⟩
    · exact ⟨(uI_ix (by omega)).trans q0, (uI_ix (by omega)).trans (q1.trans (hR _ (by omega)).symm), (uI_ix (by omega)).trans (q2.trans (hR _ (by omega)).symm), (uI_ix (by omega)).trans (q3.trans (hR _ (by omega)).symm)⟩
  · obtain ⟨q0, q1, q2, q3⟩ := hh i1 h1
    have qc : cauB P (ur r (35 + i) v) i1 = cauB P r i1 := bs_cong fun m hm => by
      show decide (ur r (35 + i) v (28 + m) = nI i1) = decide (r (28 + m) = nI i1)
      rw [hR (28 + m) (by omega)]
    exact ⟨(uI_off (by omega)).trans (q0.trans (hR _ (by omega)).symm), (uI_off (by omega)).trans q1, (uI_off (by omega)).trans q2, (uI_off (by omega)).trans (by rw [qc]; exact q3)⟩
  · exact (uI_off (by omega)).trans (t1.trans (hR _ (by omega)).symm)
  · exact (uI_off (by omega)).trans (t2.trans (hR _ (by omega)).symm)
  · exact (uI_off (by omega)).trans (t3.trans (hR _ (by omega)).symm)
theorem CS.s2 {I : mI} {a : Nat} {P : mP} {r : mW} (h : CS I a P r) (hv : PV P) {i : Nat} (hi : i < nSi P) (v : Int32) : CS (uI I (a + 4) (i * 4 + 2) v) a P (ur r (45 + i) v) := by
  obtain ⟨⟨a1, a2, a3⟩, ⟨b1, b2, b3⟩, ⟨c1, c2, c3⟩, hl, hs, hh, t1, t2, t3⟩ := h
  obtain ⟨v1, v2, v3, -⟩ := hv
  have hR : ∀ m, m ≠ (45 + i) → ur r (45 + i) v m = r m := fun m q => if_neg q
  refine ⟨⟨(uI_off (by omega)).trans a1, (uI_off (by omega)).trans a2, (uI_off (by omega)).trans a3⟩, ⟨(uI_off (by omega)).trans b1, (uI_off (by omega)).trans b2, (uI_off (by omega)).trans b3⟩, ⟨(uI_off (by omega)).trans c1, (uI_off (by omega)).trans c2, (uI_off (by omega)).trans c3⟩, fun i1 h1 => ?_, fun i1 h1 => ?_, fun i1 h1 => ?_, ?_, ?_, ?_⟩
  · obtain ⟨q0, q1, q2, q3, q4, q5, q6⟩ := hl i1 h1
    exact ⟨(uI_off (by omega)).trans (q0.trans (hR _ (by omega)).symm), (uI_off (by omega)).trans q1, (uI_off (by omega)).trans q2, (uI_off (by omega)).trans (q3.trans (hR _ (by omega)).symm), (uI_off (by omega)).trans (q4.trans (hR _ (by omega)).symm), (uI_off (by omega)).trans (q5.trans (hR _ (by omega)).symm), (uI_off (by omega)).trans (q6.trans (hR _ (by omega)).symm)⟩
  · obtain ⟨q0, q1, q2, q3⟩ := hs i1 h1
    by_cases e : i1 = i
    · subst e
      exact ⟨(uI_ix (by omega)).trans q0, (uI_ix (by omega)).trans (q1.trans (hR _ (by omega)).symm), (uI_same _ _ _ _).trans (ur_s _ _ _).symm, (uI_ix (by omega)).trans (q3.trans (hR _ (by omega)).symm)⟩
    · exact ⟨(uI_ix (by omega)).trans q0, (uI_ix (by omega)).trans (q1.trans (hR _ (by omega)).symm), (uI_ix (by omega)).trans (q2.trans (hR _ (by omega)).symm), (uI_ix (by omega)).trans (q3.trans (hR _ (by omega)).symm)⟩
  · obtain ⟨q0, q1, q2, q3⟩ := hh i1 h1
    have qc : cauB P (ur r (45 + i) v) i1 = cauB P r i1 := bs_cong fun m hm => by
      show decide (ur r (45 + i) v (28 + m) = nI i1) = decide (r (28 + m) = nI i1)
      rw [hR (28 + m) (by omega)]
    exact ⟨(uI_off (by omega)).trans (q0.trans (hR _ (by omega)).symm), (uI_off (by omega)).trans q1, (uI_off (by omega)).trans q2, (uI_off (by omega)).trans (by rw [qc]; exact q3)⟩
  · exact (uI_off (by omega)).trans (t1.trans (hR _ (by omega)).symm)
  · exact (uI_off (by omega)).trans (t2.trans (hR _ (by omega)).symm)
  · exact (uI_off (by omega)).trans (t3.trans (hR _ (by omega)).symm)
theorem CS.s3 {I : mI} {a : Nat} {P : mP} {r : mW} (h : CS I a P r) (hv : PV P) {i : Nat} (hi : i < nSi P) (v : Int32) : CS (uI I (a + 4) (i * 4 + 3) v) a P (ur r (40 + i) v) := by
  obtain ⟨⟨a1, a2, a3⟩, ⟨b1, b2, b3⟩, ⟨c1, c2, c3⟩, hl, hs, hh, t1, t2, t3⟩ := h
  obtain ⟨v1, v2, v3, -⟩ := hv
  have hR : ∀ m, m ≠ (40 + i) → ur r (40 + i) v m = r m := fun m q => if_neg q
  refine ⟨⟨(uI_off (by omega)).trans a1, (uI_off (by omega)).trans a2, (uI_off (by omega)).trans a3⟩, ⟨(uI_off (by omega)).trans b1, (uI_off (by omega)).trans b2, (uI_off (by omega)).trans b3⟩, ⟨(uI_off (by omega)).trans c1, (uI_off (by omega)).trans c2, (uI_off (by omega)).trans c3⟩, fun i1 h1 => ?_, fun i1 h1 => ?_, fun i1 h1 => ?_, ?_, ?_, ?_⟩
  · obtain ⟨q0, q1, q2, q3, q4, q5, q6⟩ := hl i1 h1
    exact ⟨(uI_off (by omega)).trans (q0.trans (hR _ (by omega)).symm), (uI_off (by omega)).trans q1, (uI_off (by omega)).trans q2, (uI_off (by omega)).trans (q3.trans (hR _ (by omega)).symm), (uI_off (by omega)).trans (q4.trans (hR _ (by omega)).symm), (uI_off (by omega)).trans (q5.trans (hR _ (by omega)).symm), (uI_off (by omega)).trans (q6.trans (hR _ (by omega)).symm)⟩
  · obtain ⟨q0, q1, q2, q3⟩ := hs i1 h1
    by_cases e : i1 = i
    · subst e
      exact ⟨(uI_ix (by omega)).trans q0, (uI_ix (by omega)).trans (q1.trans (hR _ (by omega)).symm), (uI_ix (by omega)).trans (q2.trans (hR _ (by omega)).symm), (uI_same _ _ _ _).trans (ur_s _ _ _).symm⟩
    · exact ⟨(uI_ix (by omega)).trans q0, (uI_ix (by omega)).trans (q1.trans (hR _ (by omega)).symm), (uI_ix (by omega)).trans (q2.trans (hR _ (by omega)).symm), (uI_ix (by omega)).trans (q3.trans (hR _ (by omega)).symm)⟩
  · obtain ⟨q0, q1, q2, q3⟩ := hh i1 h1
    have qc : cauB P (ur r (40 + i) v) i1 = cauB P r i1 := bs_cong fun m hm => by
      show decide (ur r (40 + i) v (28 + m) = nI i1) = decide (r (28 + m) = nI i1)
      rw [hR (28 + m) (by omega)]
    exact ⟨(uI_off (by omega)).trans (q0.trans (hR _ (by omega)).symm), (uI_off (by omega)).trans q1, (uI_off (by omega)).trans q2, (uI_off (by omega)).trans (by rw [qc]; exact q3)⟩
  · exact (uI_off (by omega)).trans (t1.trans (hR _ (by omega)).symm)
  · exact (uI_off (by omega)).trans (t2.trans (hR _ (by omega)).symm)
  · exact (uI_off (by omega)).trans (t3.trans (hR _ (by omega)).symm)
theorem CS.h0 {I : mI} {a : Nat} {P : mP} {r : mW} (h : CS I a P r) (hv : PV P) {i : Nat} (hi : i < nHo P) (v : Int32) : CS (uI I (a + 6) (i * 4 + 0) v) a P (ur r (50 + i) v) := by
  obtain ⟨⟨a1, a2, a3⟩, ⟨b1, b2, b3⟩, ⟨c1, c2, c3⟩, hl, hs, hh, t1, t2, t3⟩ := h
  obtain ⟨v1, v2, v3, -⟩ := hv
  have hR : ∀ m, m ≠ (50 + i) → ur r (50 + i) v m = r m := fun m q => if_neg q
  refine ⟨⟨(uI_off (by omega)).trans a1, (uI_off (by omega)).trans a2, (uI_off (by omega)).trans a3⟩, ⟨(uI_off (by omega)).trans b1, (uI_off (by omega)).trans b2, (uI_off (by omega)).trans b3⟩, ⟨(uI_off (by omega)).trans c1, (uI_off (by omega)).trans c2, (uI_off (by omega)).trans c3⟩, fun i1 h1 => ?_, fun i1 h1 => ?_, fun i1 h1 => ?_, ?_, ?_, ?_⟩
  · obtain ⟨q0, q1, q2, q3, q4, q5, q6⟩ := hl i1 h1
    exact ⟨(uI_off (by omega)).trans (q0.trans (hR _ (by omega)).symm), (uI_off (by omega)).trans q1, (uI_off (by omega)).trans q2, (uI_off (by omega)).trans (q3.trans (hR _ (by omega)).symm), (uI_off (by omega)).trans (q4.trans (hR _ (by omega)).symm), (uI_off (by omega)).trans (q5.trans (hR _ (by omega)).symm), (uI_off (by omega)).trans (q6.trans (hR _ (by omega)).symm)⟩
  · obtain ⟨q0, q1, q2, q3⟩ := hs i1 h1
    exact ⟨(uI_off (by omega)).trans q0, (uI_off (by omega)).trans (q1.trans (hR _ (by omega)).symm), (uI_off (by omega)).trans (q2.trans (hR _ (by omega)).symm), (uI_off (by omega)).trans (q3.trans (hR _ (by omega)).symm)⟩
  · obtain ⟨q0, q1, q2, q3⟩ := hh i1 h1
    have qc : cauB P (ur r (50 + i) v) i1 = cauB P r i1 := bs_cong fun m hm => by
      show decide (ur r (50 + i) v (28 + m) = nI i1) = decide (r (28 + m) = nI i1)
      rw [hR (28 + m) (by omega)]
    by_cases e : i1 = i
    · subst e
      exact ⟨(uI_same _ _ _ _).trans (ur_s _ _ _).symm, (uI_ix (by omega)).trans q1, (uI_ix (by omega)).trans q2, (uI_ix (by omega)).trans (by rw [qc]; exact q3)⟩
    · exact ⟨(uI_ix (by omega)).trans (q0.trans (hR _ (by omega)).symm), (uI_ix (by omega)).trans q1, (uI_ix (by omega)).trans q2, (uI_ix (by omega)).trans (by rw [qc]; exact q3)⟩
  · exact (uI_off (by omega)).trans (t1.trans (hR _ (by omega)).symm)
  · exact (uI_off (by omega)).trans (t2.trans (hR _ (by omega)).symm)
  · exact (uI_off (by omega)).trans (t3.trans (hR _ (by omega)).symm)
theorem CS.t3 {I : mI} {a : Nat} {P : mP} {r : mW} (h : CS I a P r) (hv : PV P) (v : Int32) : CS (uI I a 3 v) a P (ur r 55 v) := by
  obtain ⟨⟨a1, a2, a3⟩, ⟨b1, b2, b3⟩, ⟨c1, c2, c3⟩, hl, hs, hh, t1, t2, t3⟩ := h
  obtain ⟨v1, v2, v3, -⟩ := hv
  have hR : ∀ m, m ≠ 55 → ur r 55 v m = r m := fun m q => if_neg q
  refine ⟨⟨(uI_off (by omega)).trans a1, (uI_off (by omega)).trans a2, (uI_off (by omega)).trans a3⟩, ⟨(uI_off (by omega)).trans b1, (uI_off (by omega)).trans b2, (uI_off (by omega)).trans b3⟩, ⟨(uI_off (by omega)).trans c1, (uI_off (by omega)).trans c2, (uI_off (by omega)).trans c3⟩, fun i1 h1 => ?_, fun i1 h1 => ?_, fun i1 h1 => ?_, ?_, ?_, ?_⟩
  · obtain ⟨q0, q1, q2, q3, q4, q5, q6⟩ := hl i1 h1
    exact ⟨(uI_off (by omega)).trans (q0.trans (hR _ (by omega)).symm), (uI_off (by omega)).trans q1, (uI_off (by omega)).trans q2, (uI_off (by omega)).trans (q3.trans (hR _ (by omega)).symm), (uI_off (by omega)).trans (q4.trans (hR _ (by omega)).symm), (uI_off (by omega)).trans (q5.trans (hR _ (by omega)).symm), (uI_off (by omega)).trans (q6.trans (hR _ (by omega)).symm)⟩
  · obtain ⟨q0, q1, q2, q3⟩ := hs i1 h1
    exact ⟨(uI_off (by omega)).trans q0, (uI_off (by omega)).trans (q1.trans (hR _ (by omega)).symm), (uI_off (by omega)).trans (q2.trans (hR _ (by omega)).symm), (uI_off (by omega)).trans (q3.trans (hR _ (by omega)).symm)⟩
  · obtain ⟨q0, q1, q2, q3⟩ := hh i1 h1
    have qc : cauB P (ur r 55 v) i1 = cauB P r i1 := bs_cong fun m hm => by
      show decide (ur r 55 v (28 + m) = nI i1) = decide (r (28 + m) = nI i1)
      rw [hR (28 + m) (by omega)]
    exact ⟨(uI_off (by omega)).trans (q0.trans (hR _ (by omega)).symm), (uI_off (by omega)).trans q1, (uI_off (by omega)).trans q2, (uI_off (by omega)).trans (by rw [qc]; exact q3)⟩
  · exact (uI_same _ _ _ _).trans (ur_s _ _ _).symm
  · exact (uI_ix (by omega)).trans (t2.trans (hR _ (by omega)).symm)
  · exact (uI_ix (by omega)).trans (t3.trans (hR _ (by omega)).symm)
theorem CS.t4 {I : mI} {a : Nat} {P : mP} {r : mW} (h : CS I a P r) (hv : PV P) (v : Int32) : CS (uI I a 4 v) a P (ur r 56 v) := by
  obtain ⟨⟨a1, a2, a3⟩, ⟨b1, b2, b3⟩, ⟨c1, c2, c3⟩, hl, hs, hh, t1, t2, t3⟩ := h
  obtain ⟨v1, v2, v3, -⟩ := hv
  have hR : ∀ m, m ≠ 56 → ur r 56 v m = r m := fun m q => if_neg q
  refine ⟨⟨(uI_off (by omega)).trans a1, (uI_off (by omega)).trans a2, (uI_off (by omega)).trans a3⟩, ⟨(uI_off (by omega)).trans b1, (uI_off (by omega)).trans b2, (uI_off (by omega)).trans b3⟩, ⟨(uI_off (by omega)).trans c1, (uI_off (by omega)).trans c2, (uI_off (by omega)).trans c3⟩, fun i1 h1 => ?_, fun i1 h1 => ?_, fun i1 h1 => ?_, ?_, ?_, ?_⟩
  · obtain ⟨q0, q1, q2, q3, q4, q5, q6⟩ := hl i1 h1
    exact ⟨(uI_off (by omega)).trans (q0.trans (hR _ (by omega)).symm), (uI_off (by omega)).trans q1, (uI_off (by omega)).trans q2, (uI_off (by omega)).trans (q3.trans (hR _ (by omega)).symm), (uI_off (by omega)).trans (q4.trans (hR _ (by omega)).symm), (uI_off (by omega)).trans (q5.trans (hR _ (by omega)).symm), (uI_off (by omega)).trans (q6.trans (hR _ (by omega)).symm)⟩
  · obtain ⟨q0, q1, q2, q3⟩ := hs i1 h1
    exact ⟨(uI_off (by omega)).trans q0, (uI_off (by omega)).trans (q1.trans (hR _ (by omega)).symm), (uI_off (by omega)).trans (q2.trans (hR _ (by omega)).symm), (uI_off (by omega)).trans (q3.trans (hR _ (by omega)).symm)⟩
  · obtain ⟨q0, q1, q2, q3⟩ := hh i1 h1
    have qc : cauB P (ur r 56 v) i1 = cauB P r i1 := bs_cong fun m hm => by
      show decide (ur r 56 v (28 + m) = nI i1) = decide (r (28 + m) = nI i1)
      rw [hR (28 + m) (by omega)]
    exact ⟨(uI_off (by omega)).trans (q0.trans (hR _ (by omega)).symm), (uI_off (by omega)).trans q1, (uI_off (by omega)).trans q2, (uI_off (by omega)).trans (by rw [qc]; exact q3)⟩
  · exact (uI_ix (by omega)).trans (t1.trans (hR _ (by omega)).symm)
  · exact (uI_same _ _ _ _).trans (ur_s _ _ _).symm
  · exact (uI_ix (by omega)).trans (t3.trans (hR _ (by omega)).symm)
theorem CS.t5 {I : mI} {a : Nat} {P : mP} {r : mW} (h : CS I a P r) (hv : PV P) (v : Int32) : CS (uI I a 5 v) a P (ur r 57 v) := by
  obtain ⟨⟨a1, a2, a3⟩, ⟨b1, b2, b3⟩, ⟨c1, c2, c3⟩, hl, hs, hh, t1, t2, t3⟩ := h
  obtain ⟨v1, v2, v3, -⟩ := hv
  have hR : ∀ m, m ≠ 57 → ur r 57 v m = r m := fun m q => if_neg q
  refine ⟨⟨(uI_off (by omega)).trans a1, (uI_off (by omega)).trans a2, (uI_off (by omega)).trans a3⟩, ⟨(uI_off (by omega)).trans b1, (uI_off (by omega)).trans b2, (uI_off (by omega)).trans b3⟩, ⟨(uI_off (by omega)).trans c1, (uI_off (by omega)).trans c2, (uI_off (by omega)).trans c3⟩, fun i1 h1 => ?_, fun i1 h1 => ?_, fun i1 h1 => ?_, ?_, ?_, ?_⟩
  · obtain ⟨q0, q1, q2, q3, q4, q5, q6⟩ := hl i1 h1
    exact ⟨(uI_off (by omega)).trans (q0.trans (hR _ (by omega)).symm), (uI_off (by omega)).trans q1, (uI_off (by omega)).trans q2, (uI_off (by omega)).trans (q3.trans (hR _ (by omega)).symm), (uI_off (by omega)).trans (q4.trans (hR _ (by omega)).symm), (uI_off (by omega)).trans (q5.trans (hR _ (by omega)).symm), (uI_off (by omega)).trans (q6.trans (hR _ (by omega)).symm)⟩
  · obtain ⟨q0, q1, q2, q3⟩ := hs i1 h1
    exact ⟨(uI_off (by omega)).trans q0, (uI_off (by omega)).trans (q1.trans (hR _ (by omega)).symm), (uI_off (by omega)).trans (q2.trans (hR _ (by omega)).symm), (uI_off (by omega)).trans (q3.trans (hR _ (by omega)).symm)⟩
  · obtain ⟨q0, q1, q2, q3⟩ := hh i1 h1
    have qc : cauB P (ur r 57 v) i1 = cauB P r i1 := bs_cong fun m hm => by
      show decide (ur r 57 v (28 + m) = nI i1) = decide (r (28 + m) = nI i1)
      rw [hR (28 + m) (by omega)]
    exact ⟨(uI_off (by omega)).trans (q0.trans (hR _ (by omega)).symm), (uI_off (by omega)).trans q1, (uI_off (by omega)).trans q2, (uI_off (by omega)).trans (by rw [qc]; exact q3)⟩
  · exact (uI_ix (by omega)).trans (t1.trans (hR _ (by omega)).symm)
  · exact (uI_ix (by omega)).trans (t2.trans (hR _ (by omega)).symm)
  · exact (uI_same _ _ _ _).trans (ur_s _ _ _).symm
theorem or_any : ∀ n, n < 7 → ∀ b, b < 128 → b / 2 ^ n % 2 = 0 → nI b ||| (nI 1 <<< (nI n &&& nI 31)) = nI (b + 2 ^ n) := by decide +kernel
theorem bs_add {P Q : Nat → Bool} {i : Nat} (h0 : P i = false) (h1 : Q i = true) (h : ∀ m, m ≠ i → Q m = P m) : ∀ {n : Nat}, i < n → bs Q n = bs P n + 2 ^ i
  | n + 1, hn => by
    by_cases e : i = n
    · subst e
      unfold bs
      rw [bs_cong (P := Q) (Q := P) (n := i) (fun m hm => h m (by omega)), h0, h1]
      rfl
    · unfold bs
      rw [bs_add h0 h1 h (n := n) (by omega), h n (by omega)]
      omega
theorem cau_or {P Q : Nat → Bool} {n i : Nat} (hi : i < n) (hn : n ≤ 7) (h0 : P i = false) (h1 : Q i = true) (h : ∀ m, m < n → m ≠ i → Q m = P m) : nI (bs P n) ||| (nI 1 <<< (nI i &&& nI 31)) = nI (bs Q n) := by
  have hb : bs P n / 2 ^ i % 2 = 0 := by
    rw [bs_bit hi, h0]
    rfl
  rw [or_any i (by omega) _ (bs_128 P hn) hb]
  have : bs Q n = bs (fun m => if m = i then true else P m) n := bs_cong fun m hm => by
    by_cases e : m = i
    · rw [e, h1, if_pos rfl]
    · rw [h m hm e, if_neg e]
  rw [this, bs_add (P := P) (i := i) h0 (if_pos rfl) (fun m q => if_neg q) hi]
/-- a load's hook, and the hook's bits -/
theorem CS.ct {I : mI} {a : Nat} {P : mP} {r : mW} (h : CS I a P r) (hv : PV P) {i g : Nat} (hi : i < nLo P) (hg : g < nHo P) (hm : r (28 + i) = -2) : CS (uI (uI I (a + 2) (i * 7 + 6) (nI g)) (a + 6) (g * 4 + 3) (I (a + 6) (g * 4 + 3) ||| (nI 1 <<< (nI i &&& nI 31)))) a P (ur r (28 + i) (nI g)) := by
  obtain ⟨⟨a1, a2, a3⟩, ⟨b1, b2, b3⟩, ⟨c1, c2, c3⟩, hl, hs, hh, t1, t2, t3⟩ := h
  obtain ⟨v1, v2, v3, -⟩ := hv
  have hR : ∀ m, m ≠ (28 + i) → ur r (28 + i) (nI g) m = r m := fun m q => if_neg q
  have A : ∀ {x j : Nat} {y : Int32}, x ≠ a + 2 → x ≠ a + 6 → I x j = y → uI (uI I (a + 2) (i * 7 + 6) (nI g)) (a + 6) (g * 4 + 3) (I (a + 6) (g * 4 + 3) ||| (nI 1 <<< (nI i &&& nI 31))) x j = y := fun h1 h2 e => (uI_off h2).trans ((uI_off h1).trans e)
  refine ⟨⟨A (by omega) (by omega) a1, A (by omega) (by omega) a2, A (by omega) (by omega) a3⟩, ⟨A (by omega) (by omega) b1, A (by omega) (by omega) b2, A (by omega) (by omega) b3⟩, ⟨A (by omega) (by omega) c1, A (by omega) (by omega) c2, A (by omega) (by omega) c3⟩, fun i1 h1 => ?_, fun i1 h1 => ?_, fun i1 h1 => ?_, ?_, ?_, ?_⟩
  · obtain ⟨q0, q1, q2, q3, q4, q5, q6⟩ := hl i1 h1
    have B : ∀ {j : Nat} {y : Int32}, j ≠ i * 7 + 6 → I (a + 2) j = y → uI (uI I (a + 2) (i * 7 + 6) (nI g)) (a + 6) (g * 4 + 3) (I (a + 6) (g * 4 + 3) ||| (nI 1 <<< (nI i &&& nI 31))) (a + 2) j = y := fun h1 e => (uI_off (by omega)).trans ((uI_ix h1).trans e)
    refine ⟨B (by omega) (q0.trans (hR _ (by omega)).symm), B (by omega) q1, B (by omega) q2, B (by omega) (q3.trans (hR _ (by omega)).symm), B (by omega) (q4.trans (hR _ (by omega)).symm), B (by omega) (q5.trans (hR _ (by omega)).symm), ?_⟩
    by_cases e : i1 = i
    · subst e
      rw [uI_off (by omega), uI_same, ur_s]
    · exact B (by omega) (q6.trans (hR _ (by omega)).symm)
  · obtain ⟨q0, q1, q2, q3⟩ := hs i1 h1
    exact ⟨A (by omega) (by omega) q0, A (by omega) (by omega) (q1.trans (hR _ (by omega)).symm), A (by omega) (by omega) (q2.trans (hR _ (by omega)).symm), A (by omega) (by omega) (q3.trans (hR _ (by omega)).symm)⟩
  · obtain ⟨q0, q1, q2, q3⟩ := hh i1 h1
    have B : ∀ {j : Nat} {y : Int32}, j ≠ g * 4 + 3 → I (a + 6) j = y → uI (uI I (a + 2) (i * 7 + 6) (nI g)) (a + 6) (g * 4 + 3) (I (a + 6) (g * 4 + 3) ||| (nI 1 <<< (nI i &&& nI 31))) (a + 6) j = y := fun h1 e => (uI_ix h1).trans ((uI_off (by omega)).trans e)
    refine ⟨B (by omega) (q0.trans (hR _ (by omega)).symm), B (by omega) q1, B (by omega) q2, ?_⟩
    by_cases e : i1 = g
    · subst e
      rw [uI_same, q3]
      have := cau_or (P := fun m => decide (r (28 + m) = nI i1)) (Q := fun m => decide (ur r (28 + i) (nI i1) (28 + m) = nI i1)) (n := nLo P) (i := i) hi v1 (by rw [hm]; exact decide_eq_false fun q => nI_m2 (k := i1) (by omega) q.symm) (by show decide (ur r (28 + i) (nI i1) (28 + i) = nI i1) = true; rw [ur_s]; exact decide_eq_true rfl) (fun m _ q => by show decide (ur r (28 + i) (nI i1) (28 + m) = nI i1) = decide (r (28 + m) = nI i1); rw [hR (28 + m) (by omega)])
      exact this
    · refine B (by omega) (q3.trans ?_)
      have : cauB P (ur r (28 + i) (nI g)) i1 = cauB P r i1 := bs_cong fun m hm2 => by
        show decide (ur r (28 + i) (nI g) (28 + m) = nI i1) = decide (r (28 + m) = nI i1)
        by_cases em : m = i
        · subst em
          rw [ur_s, hm]
          have x1 : ¬ nI g = nI i1 := fun q => e ((nI_eq (by omega) (by omega)).mp q).symm
          have x2 : ¬ (-2 : Int32) = nI i1 := fun q => nI_m2 (k := i1) (by omega) q.symm
          rw [decide_eq_false x1, decide_eq_false x2]
        · rw [hR (28 + m) (by omega)]
      rw [this]
  · exact A (by omega) (by omega) (t1.trans (hR _ (by omega)).symm)
  · exact A (by omega) (by omega) (t2.trans (hR _ (by omega)).symm)
  · exact A (by omega) (by omega) (t3.trans (hR _ (by omega)).symm)
