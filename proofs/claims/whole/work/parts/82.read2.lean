/-! reading, class side: parts and expressions -/
theorem s_prodOut (d : Nat) {S : mS} {I : mI} {L : mJ} (G : Gd S) (h : ¬ I 31 6 = nI 0) (x i : Int32) : evk zcod none d zc_X6_product 7 [(0, .ref 31), (1, .int x), (2, .int i)] [] (S, I, L) = some (none, (S, I, L)) := by
  rw [B_X6_product_7]
  simp only [B_X6_product_87, gRd G, if_true, h, not_false_iff, ite_self]
theorem s_sumOut (d : Nat) {S : mS} {I : mI} {L : mJ} (G : Gd S) (h : ¬ I 31 6 = nI 0) (x i : Int32) : evk zcod none d zc_X6_sum 7 [(0, .ref 31), (1, .int x), (2, .int i)] [] (S, I, L) = some (none, (S, I, L)) := by
  rw [B_X6_sum_7]
  simp only [B_X6_sum_86, gRd G, if_true, h, not_false_iff, ite_self]
theorem s_prodLoop {S : mS} {L : mJ} {K V : Nat → Int32} (G : Gd S) {w c : Nat} (hw : w ≤ 6) (hs : USp S L K V w (c + 4)) : ∀ (n d : Nat) (I : mI) (t u i : Nat) (a : List Int32), 400 - t ≤ n → TKV I L K V → RD I t → I 28 2 = nI (u + a.length) → LCf (I 29) u a → u + a.length ≤ t + 20 → i < t → ∃ r J, PX K V 2 w t a r ∧ evk zcod none (d + c + 4) zc_X6_product 7 [(0, .ref 31), (1, .int (nI w)), (2, .int (nI i))] [] (S, I, L) = some (none, (S, J, L)) ∧ Fi rdA I J ∧ XR I J u r := by
  intro n
  induction n with
  | zero =>
    intro d I t u i a hn hk h hu hc hu2 hi
    have h' := h
    obtain ⟨h1, h2, h3, h4, h5⟩ := h'
    have ht : t = 400 := by omega
    subst ht
    rw [hk.1] at h3
    rw [B_X6_product_7, if_neg (nI_ge (by omega) (by omega))]
    simp only [gRd G, if_true, h4, not_true, if_false, h3]
    have out : ∀ s0, isTd K 400 → ∃ r J, PX K V 2 w 400 a r ∧ evk zcod none (d + c + 4) zc_X6_product 55 [(0, .ref 31), (1, .int (nI w)), (2, .int (nI i))] [.int s0] (S, I, L) = some (none, (S, J, L)) ∧ Fi rdA I J ∧ XR I J u r := by
      intro s0 q0
      obtain ⟨J, e, f, q⟩ := s_take_room (d + c + 1) (L := L) G h (x := K 400) (congrFun hk.1 400) (by omega)
      obtain ⟨J2, e2, f2, q2⟩ := s_lAdd0 (d + c + 3) (L := L) G (I := J) ⟨u + a.length, by omega, (f 28 2 (by omega)).trans hu⟩ s0
      refine ⟨_, J2, .plF q0 (by omega), ?_, (f.up fun _ _ => tkA_rd).tr (f2.up fun _ _ => adA_rd), q.cg f2, q2⟩
      rw [B_X6_product_55]
      simp only [gRd G, gTop G, gLaw G, if_true, h3, e, bI_eq, s_unit_bad (d + c + 3) (L := L) G q.n0, bV_eq, e2]
      exact s_prodOut _ G (q.cg f2).n0 _ _
    by_cases a1 : K 400 = nI 42
    · rw [if_pos a1, B_X6_product_39]
      simp only [gRd G, if_true, h3, a1, not_true, if_false]
      exact out _ (Or.inl a1)
    · rw [if_neg a1]
      by_cases a2 : K 400 = nI 47
      · rw [if_neg (fun q => q a2), B_X6_product_39]
        simp only [gRd G, if_true, h3, a1, not_false_iff, B_X6_product_53]
        exact out _ (Or.inr a2)
      · rw [if_pos a2, B_X6_product_87]
        exact ⟨_, I, .plE (fun q => q.elim a1 a2), rfl, Fi.rf, h, hu, hc, fun _ _ => rfl⟩
  | succ n ih =>
    intro d I t u i a hn hk h hu hc hu2 hi
    have h' := h
    obtain ⟨h1, h2, h3, h4, h5⟩ := h'
    rw [hk.1] at h3
    rw [B_X6_product_7, if_neg (nI_ge (by omega) (by omega))]
    simp only [gRd G, if_true, h4, not_true, if_false, h3]
    have out : ∀ s0, (K t = nI 42 ∧ s0 = -3 ∨ K t = nI 47 ∧ s0 = -4) → ∃ r J, PX K V 2 w t a r ∧ evk zcod none (d + c + 4) zc_X6_product 55 [(0, .ref 31), (1, .int (nI w)), (2, .int (nI i))] [.int s0] (S, I, L) = some (none, (S, J, L)) ∧ Fi rdA I J ∧ XR I J u r := by
      intro s0 q0
      have q1 : isTd K t := q0.elim (fun z => Or.inl z.1) (fun z => Or.inr z.1)
      have hs0 : isC s0 := q0.elim (fun z => by rw [z.2]; exact Or.inr (Or.inr (Or.inr (Or.inr (Or.inl rfl))))) (fun z => by rw [z.2]; exact Or.inr (Or.inr (Or.inr (Or.inr (Or.inr rfl)))))
      rw [B_X6_product_55]
      by_cases ht : t < 400
      · have e := s_take_ok (d + c + 2) (L := L) G h (x := K t) (congrFun hk.1 t) ht
        have f0 := tk_fi I (nI (t + 1)) (I 34 (t + 1))
        obtain ⟨r, J, p1, e2, f2, q2⟩ := hs d _ (t + 1) (u + a.length) (hk.cg f0) (h.take ht) ((uI_off (by omega)).trans ((uI_off (by omega)).trans hu)) (by omega)
        rw [show d + (c + 4) = d + c + 4 by omega] at e2
        have f3 := f0.tr f2
        match r, p1, q2 with
        | Sum.inr (t', f), p1, q2 =>
          obtain ⟨J2, e3, f4, q3⟩ := s_lAdd0 (d + c + 3) (L := L) G q2.2 s0
          refine ⟨_, J2, .plB q1 ht p1, ?_, f3.tr (f4.up fun _ _ => adA_rd), q2.1.cg f4, q3⟩
          simp only [gRd G, gTop G, gLaw G, if_true, h3, e, bI_eq, e2, bV_eq, e3]
          exact s_prodOut _ G (q2.1.cg f4).n0 _ _
        | Sum.inl (t', o), p1, ⟨q3, q4, q5, q6⟩ =>
          have pr := p1.pr hk.2.2 (by omega) hw
          have l1 := pr.1
          have l2 : o.length + (t + 1) ≤ 0 + t' := pr.2.2.1
          have l3 := pr.2.2.2.1 (Or.inl rfl)
          have e3 := s_lAdd (d + c + 3) (L := L) G q4 (by omega) s0
          have f4 := ad_fi J (u + a.length + o.length) s0 (nI (u + a.length + o.length + 1))
          have len : (a ++ (o ++ [s0])).length = a.length + (o.length + 1) := by rw [List.length_append, List.length_append]; rfl
          have c29 : ∀ j, j < u + a.length + o.length → uI (uI J 29 (u + a.length + o.length) s0) 28 2 (nI (u + a.length + o.length + 1)) 29 j = J 29 j := fun j hj => (uI_off (by omega)).trans (uI_ix (by omega))
          have lo : ∀ j, j < u + a.length → J 29 j = I 29 j := fun j hj => (q6 j hj).trans ((uI_off (by omega)).trans (uI_off (by omega)))
          obtain ⟨r2, J2, p2, e5, f5, q7⟩ := ih d _ t' u (i + 1) (a ++ (o ++ [s0])) (by omega) ((hk.cg f3).cg (f4.up fun _ _ => adA_rd)) (q3.cg f4) (by rw [len, uI_same, show u + (a.length + (o.length + 1)) = u + a.length + o.length + 1 by omega]) ((hc.lo fun j _ hj => (c29 j (by omega)).trans (lo j hj)).app ((q5.lo fun j _ hj => c29 j hj).app ⟨(uI_off (by omega)).trans (uI_same _ _ _ _), hs0, trivial⟩)) (by rw [len]; omega) (by omega)
          refine ⟨r2, J2, .pl q0 ht p1 p2, ?_, (f3.tr (f4.up fun _ _ => adA_rd)).tr f5, ?_⟩
          · simp only [gRd G, gTop G, gLaw G, if_true, h3, e, bI_eq, e2, bV_eq, e3, nI_add]
            exact e5
          · match r2, q7 with
            | Sum.inr (_, _), q7 => exact q7
            | Sum.inl (t2, o2), ⟨g1, g2, g3, g4⟩ => exact ⟨g1, g2, g3, fun j hj => (g4 j hj).trans ((c29 j (by omega)).trans (lo j (by omega)))⟩
      · obtain ⟨J, e, f, q⟩ := s_take_room (d + c + 1) (L := L) G h (x := K t) (congrFun hk.1 t) ht
        obtain ⟨J2, e2, f2, q2⟩ := s_lAdd0 (d + c + 3) (L := L) G (I := J) ⟨u + a.length, by omega, (f 28 2 (by omega)).trans hu⟩ s0
        refine ⟨_, J2, .plF q1 ht, ?_, (f.up fun _ _ => tkA_rd).tr (f2.up fun _ _ => adA_rd), q.cg f2, q2⟩
        simp only [gRd G, gTop G, gLaw G, if_true, h3, e, bI_eq, s_unit_bad (d + c + 3) (L := L) G q.n0, bV_eq, e2]
        exact s_prodOut _ G (q.cg f2).n0 _ _
    by_cases a1 : K t = nI 42
    · rw [if_pos a1, B_X6_product_39]
      simp only [gRd G, if_true, h3, a1, not_true, if_false]
      exact out _ (Or.inl ⟨a1, rfl⟩)
    · rw [if_neg a1]
      by_cases a2 : K t = nI 47
      · rw [if_neg (fun q => q a2), B_X6_product_39]
        simp only [gRd G, if_true, h3, a1, not_false_iff, B_X6_product_53]
        exact out _ (Or.inr ⟨a2, rfl⟩)
      · rw [if_pos a2, B_X6_product_87]
        exact ⟨_, I, .plE (fun q => q.elim a1 a2), rfl, Fi.rf, h, hu, hc, fun _ _ => rfl⟩
theorem s_product {S : mS} {L : mJ} {K V : Nat → Int32} (G : Gd S) {w c : Nat} (hw : w ≤ 6) (hs : USp S L K V w (c + 4)) : PSp S L K V w (c + 5) := by
  intro d I t u hk h hu hu2
  obtain ⟨r, J, p1, e1, f1, q1⟩ := hs d I t u hk h hu hu2
  rw [show d + (c + 5) = d + c + 4 + 1 by omega, E_X6_product, B_X6_product_0]
  rw [show d + (c + 4) = d + c + 4 by omega] at e1
  simp only [gRd G, if_true, e1, bV_eq]
  have h1 := h.1
  match r, p1, q1 with
  | Sum.inr (t', f), p1, q1 => exact ⟨_, J, .pB p1, s_prodOut _ G q1.1.n0 _ _, f1, q1⟩
  | Sum.inl (t', o), p1, ⟨q3, q4, q5, q6⟩ =>
    have pr := p1.pr hk.2.2 h1 hw
    have l1 := pr.1
    have l2 : o.length + t ≤ 0 + t' := pr.2.2.1
    have l3 := pr.2.2.2.1 (Or.inl rfl)
    obtain ⟨r2, J2, p2, e2, f2, q7⟩ := s_prodLoop G hw hs (400 - t') d J t' u 0 o (Nat.le_refl _) (hk.cg f1) q3 q4 q5 (by omega) (by omega)
    refine ⟨r2, J2, .p p1 p2, e2, f1.tr f2, ?_⟩
    match r2, q7 with
    | Sum.inr (_, _), q7 => exact q7
    | Sum.inl (t2, o2), ⟨g1, g2, g3, g4⟩ => exact ⟨g1, g2, g3, fun j hj => (g4 j hj).trans (q6 j hj)⟩
theorem s_sumLoop {S : mS} {L : mJ} {K V : Nat → Int32} (G : Gd S) {w c : Nat} (hw : w ≤ 6) (hs : PSp S L K V w (c + 4)) : ∀ (n d : Nat) (I : mI) (t u i : Nat) (a : List Int32), 400 - t ≤ n → TKV I L K V → RD I t → I 28 2 = nI (u + a.length) → LCf (I 29) u a → u + a.length ≤ t + 20 → i < t → ∃ r J, PX K V 4 w t a r ∧ evk zcod none (d + c + 4) zc_X6_sum 7 [(0, .ref 31), (1, .int (nI w)), (2, .int (nI i))] [] (S, I, L) = some (none, (S, J, L)) ∧ Fi rdA I J ∧ XR I J u r := by
  intro n
  induction n with
  | zero =>
    intro d I t u i a hn hk h hu hc hu2 hi
    have h' := h
    obtain ⟨h1, h2, h3, h4, h5⟩ := h'
    have ht : t = 400 := by omega
    subst ht
    rw [hk.1] at h3
    rw [B_X6_sum_7, if_neg (nI_ge (by omega) (by omega))]
    simp only [gRd G, if_true, h4, not_true, if_false, h3]
    have out : ∀ s0, isPm K 400 → ∃ r J, PX K V 4 w 400 a r ∧ evk zcod none (d + c + 4) zc_X6_sum 54 [(0, .ref 31), (1, .int (nI w)), (2, .int (nI i))] [.int s0] (S, I, L) = some (none, (S, J, L)) ∧ Fi rdA I J ∧ XR I J u r := by
      intro s0 q0
      obtain ⟨J, e, f, q⟩ := s_take_room (d + c + 1) (L := L) G h (x := K 400) (congrFun hk.1 400) (by omega)
      obtain ⟨J2, e2, f2, q2⟩ := s_lAdd0 (d + c + 3) (L := L) G (I := J) ⟨u + a.length, by omega, (f 28 2 (by omega)).trans hu⟩ s0
      refine ⟨_, J2, .slF q0 (by omega), ?_, (f.up fun _ _ => tkA_rd).tr (f2.up fun _ _ => adA_rd), q.cg f2, q2⟩
      rw [B_X6_sum_54]
      simp only [gRd G, gTop G, gLaw G, if_true, h3, e, bI_eq, s_product_bad (d + c + 2) (L := L) G q.n0, bV_eq, e2]
      exact s_sumOut _ G (q.cg f2).n0 _ _
    by_cases a1 : K 400 = nI 43
    · rw [if_pos a1, B_X6_sum_39]
      simp only [gRd G, if_true, h3, a1, not_true, if_false]
      exact out _ (Or.inl a1)
    · rw [if_neg a1]
      by_cases a2 : K 400 = nI 45
      · rw [if_neg (fun q => q a2), B_X6_sum_39]
        simp only [gRd G, if_true, h3, a1, not_false_iff, B_X6_sum_52]
        exact out _ (Or.inr a2)
      · rw [if_pos a2, B_X6_sum_86]
        exact ⟨_, I, .slE (fun q => q.elim a1 a2), rfl, Fi.rf, h, hu, hc, fun _ _ => rfl⟩
  | succ n ih =>
    intro d I t u i a hn hk h hu hc hu2 hi
    have h' := h
    obtain ⟨h1, h2, h3, h4, h5⟩ := h'
    rw [hk.1] at h3
    rw [B_X6_sum_7, if_neg (nI_ge (by omega) (by omega))]
    simp only [gRd G, if_true, h4, not_true, if_false, h3]
    have out : ∀ s0, (K t = nI 43 ∧ s0 = -1 ∨ K t = nI 45 ∧ s0 = -2) → ∃ r J, PX K V 4 w t a r ∧ evk zcod none (d + c + 4) zc_X6_sum 54 [(0, .ref 31), (1, .int (nI w)), (2, .int (nI i))] [.int s0] (S, I, L) = some (none, (S, J, L)) ∧ Fi rdA I J ∧ XR I J u r := by
      intro s0 q0
      have q1 : isPm K t := q0.elim (fun z => Or.inl z.1) (fun z => Or.inr z.1)
      have hs0 : isC s0 := q0.elim (fun z => by rw [z.2]; exact Or.inr (Or.inr (Or.inl rfl))) (fun z => by rw [z.2]; exact Or.inr (Or.inr (Or.inr (Or.inl rfl))))
      rw [B_X6_sum_54]
      by_cases ht : t < 400
      · have e := s_take_ok (d + c + 2) (L := L) G h (x := K t) (congrFun hk.1 t) ht
        have f0 := tk_fi I (nI (t + 1)) (I 34 (t + 1))
        obtain ⟨r, J, p1, e2, f2, q2⟩ := hs d _ (t + 1) (u + a.length) (hk.cg f0) (h.take ht) ((uI_off (by omega)).trans ((uI_off (by omega)).trans hu)) (by omega)
        rw [show d + (c + 4) = d + c + 4 by omega] at e2
        have f3 := f0.tr f2
        match r, p1, q2 with
        | Sum.inr (t', f), p1, q2 =>
          obtain ⟨J2, e3, f4, q3⟩ := s_lAdd0 (d + c + 3) (L := L) G q2.2 s0
          refine ⟨_, J2, .slB q1 ht p1, ?_, f3.tr (f4.up fun _ _ => adA_rd), q2.1.cg f4, q3⟩
          simp only [gRd G, gTop G, gLaw G, if_true, h3, e, bI_eq, e2, bV_eq, e3]
          exact s_sumOut _ G (q2.1.cg f4).n0 _ _
        | Sum.inl (t', o), p1, ⟨q3, q4, q5, q6⟩ =>
          have pr := p1.pr hk.2.2 (by omega) hw
          have l1 := pr.1
          have l2 : o.length + (t + 1) ≤ 0 + t' := pr.2.2.1
          have l3 := pr.2.2.2.1 (Or.inr (Or.inl rfl))
          have e3 := s_lAdd (d + c + 3) (L := L) G q4 (by omega) s0
          have f4 := ad_fi J (u + a.length + o.length) s0 (nI (u + a.length + o.length + 1))
          have len : (a ++ (o ++ [s0])).length = a.length + (o.length + 1) := by rw [List.length_append, List.length_append]; rfl
          have c29 : ∀ j, j < u + a.length + o.length → uI (uI J 29 (u + a.length + o.length) s0) 28 2 (nI (u + a.length + o.length + 1)) 29 j = J 29 j := fun j hj => (uI_off (by omega)).trans (uI_ix (by omega))
          have lo : ∀ j, j < u + a.length → J 29 j = I 29 j := fun j hj => (q6 j hj).trans ((uI_off (by omega)).trans (uI_off (by omega)))
          obtain ⟨r2, J2, p2, e5, f5, q7⟩ := ih d _ t' u (i + 1) (a ++ (o ++ [s0])) (by omega) ((hk.cg f3).cg (f4.up fun _ _ => adA_rd)) (q3.cg f4) (by rw [len, uI_same, show u + (a.length + (o.length + 1)) = u + a.length + o.length + 1 by omega]) ((hc.lo fun j _ hj => (c29 j (by omega)).trans (lo j hj)).app ((q5.lo fun j _ hj => c29 j hj).app ⟨(uI_off (by omega)).trans (uI_same _ _ _ _), hs0, trivial⟩)) (by rw [len]; omega) (by omega)
          refine ⟨r2, J2, .sl q0 ht p1 p2, ?_, (f3.tr (f4.up fun _ _ => adA_rd)).tr f5, ?_⟩
          · simp only [gRd G, gTop G, gLaw G, if_true, h3, e, bI_eq, e2, bV_eq, e3, nI_add]
            exact e5
          · match r2, q7 with
            | Sum.inr (_, _), q7 => exact q7
            | Sum.inl (t2, o2), ⟨g1, g2, g3, g4⟩ => exact ⟨g1, g2, g3, fun j hj => (g4 j hj).trans ((c29 j (by omega)).trans (lo j (by omega)))⟩
      · obtain ⟨J, e, f, q⟩ := s_take_room (d + c + 1) (L := L) G h (x := K t) (congrFun hk.1 t) ht
        obtain ⟨J2, e2, f2, q2⟩ := s_lAdd0 (d + c + 3) (L := L) G (I := J) ⟨u + a.length, by omega, (f 28 2 (by omega)).trans hu⟩ s0
        refine ⟨_, J2, .slF q1 ht, ?_, (f.up fun _ _ => tkA_rd).tr (f2.up fun _ _ => adA_rd), q.cg f2, q2⟩
        simp only [gRd G, gTop G, gLaw G, if_true, h3, e, bI_eq, s_product_bad (d + c + 2) (L := L) G q.n0, bV_eq, e2]
        exact s_sumOut _ G (q.cg f2).n0 _ _
    by_cases a1 : K t = nI 43
    · rw [if_pos a1, B_X6_sum_39]
      simp only [gRd G, if_true, h3, a1, not_true, if_false]
      exact out _ (Or.inl ⟨a1, rfl⟩)
    · rw [if_neg a1]
      by_cases a2 : K t = nI 45
      · rw [if_neg (fun q => q a2), B_X6_sum_39]
        simp only [gRd G, if_true, h3, a1, not_false_iff, B_X6_sum_52]
        exact out _ (Or.inr ⟨a2, rfl⟩)
      · rw [if_pos a2, B_X6_sum_86]
        exact ⟨_, I, .slE (fun q => q.elim a1 a2), rfl, Fi.rf, h, hu, hc, fun _ _ => rfl⟩
theorem s_sum {S : mS} {L : mJ} {K V : Nat → Int32} (G : Gd S) {w c : Nat} (hw : w ≤ 6) (hs : PSp S L K V w (c + 4)) : SSp S L K V w (c + 5) := by
  intro d I t u hk h hu hu2
  obtain ⟨r, J, p1, e1, f1, q1⟩ := hs d I t u hk h hu hu2
  rw [show d + (c + 5) = d + c + 4 + 1 by omega, E_X6_sum, B_X6_sum_0]
  rw [show d + (c + 4) = d + c + 4 by omega] at e1
  simp only [gRd G, if_true, e1, bV_eq]
  have h1 := h.1
  match r, p1, q1 with
  | Sum.inr (t', f), p1, q1 => exact ⟨_, J, .sB p1, s_sumOut _ G q1.1.n0 _ _, f1, q1⟩
  | Sum.inl (t', o), p1, ⟨q3, q4, q5, q6⟩ =>
    have pr := p1.pr hk.2.2 h1 hw
    have l1 := pr.1
    have l2 : o.length + t ≤ 0 + t' := pr.2.2.1
    have l3 := pr.2.2.2.1 (Or.inr (Or.inl rfl))
    obtain ⟨r2, J2, p2, e2, f2, q7⟩ := s_sumLoop G hw hs (400 - t') d J t' u 0 o (Nat.le_refl _) (hk.cg f1) q3 q4 q5 (by omega) (by omega)
    refine ⟨r2, J2, .s p1 p2, e2, f1.tr f2, ?_⟩
    match r2, q7 with
    | Sum.inr (_, _), q7 => exact q7
    | Sum.inl (t2, o2), ⟨g1, g2, g3, g4⟩ => exact ⟨g1, g2, g3, fun j hj => (g4 j hj).trans (q6 j hj)⟩
theorem s_sums {S : mS} {L : mJ} (G : Gd S) {K V : Nat → Int32} : ∀ k, k ≤ 6 → SSp S L K V (6 - k) (6 * k + 6)
  | 0, _ => s_sum G (c := 1) (Nat.le_refl _) (s_product G (c := 0) (Nat.le_refl _) (s_unit G (c := 0) (Nat.le_refl _) fun q => absurd q (by decide)))
  | k + 1, h => by
    have ih := s_sums (K := K) (V := V) (L := L) G k (by omega)
    have e : 6 - (k + 1) + 1 = 6 - k := by omega
    exact s_sum G (c := 6 * k + 7) (by omega) (s_product G (c := 6 * k + 6) (by omega) (s_unit G (c := 6 * k + 6) (by omega) fun _ => by
      rw [e]
      exact ih))
/-- an expression, from its first token on -/
theorem s_expr {S : mS} {L : mJ} (G : Gd S) {K V : Nat → Int32} : SSp S L K V 0 42 := s_sums G 6 (Nat.le_refl _)
