/-! a law, class side -/
theorem LCf.dr {g : Nat → Int32} {a : List Int32} {p : Nat} {f : Nat → Int32} (h : LCf f p a) (e : ∀ j, p ≤ j → j < p + a.length → g j = f j) : LCf g p a := h.lo e
theorem LWf.lo {f g : Nat → Int32} {u v : Nat} : ∀ {r : List mBr} {e : List Int32} {p : Nat}, LWf f u p r e → (∀ j, j < u → g j = f j) → u ≤ v → LWf g v p r e
  | [], e, p, ⟨q1, q2, q3, q4⟩, h, hv => ⟨q1.lo fun j _ hj => h j (by omega), q2, (h _ q4).trans q3, by omega⟩
  | (a, b, t) :: r, e, p, ⟨q1, q2, q3, q4, q5, q6, q7, q8, q9, q10⟩, h, hv => by
    have lt := q10.lt
    exact ⟨q1.lo fun j _ hj => h j (by omega), q2, q3.lo fun j _ hj => h j (by omega), q4, (h _ (by omega)).trans q5, (h _ (by omega)).trans q6, q7.lo fun j _ hj => h j (by omega), q8, (h _ (by omega)).trans q9, LWf.lo q10 h hv⟩
/-- what the class has of a law that was told -/
def LWr (I J : mI) (u : Nat) : LXr → Prop
  | Sum.inl (t, r, e) => RD J t ∧ (∃ u', J 28 2 = nI u' ∧ u' ≤ t + 19 ∧ u ≤ u' ∧ LWf (J 29) u' u r e) ∧ ∀ j, j < u → J 29 j = I 29 j
  | Sum.inr (t, f) => FT J t f ∧ US J
theorem s_lawOut (d : Nat) {S : mS} {L : mJ} (G : Gd S) {I : mI} {t f : Nat} (h : FT I t f) (hu : US I) (i : Int32) : ∃ J, evk zcod none (d + 42) zc_X6_lawStatement 44 [(0, .ref 31), (2, .int i)] [] (S, I, L) = some (none, (S, J, L)) ∧ Fi adA I J ∧ FT J t f ∧ US J := by
  obtain ⟨J, e, fi, us, -⟩ := s_lAddX (d + 41) (L := L) G hu (-6) 0
  refine ⟨J, ?_, fi, h.cg fi, us⟩
  have e162 : evk zcod none (d + 42) zc_X6_lawStatement 162 [(0, .ref 31)] [] (S, I, L) = some (none, (S, J, L)) := by
    rw [B_X6_lawStatement_162]
    simp only [gRd G, gTop G, gLaw G, if_true, s_sum_bad (d + 39) (L := L) G h.n0 (nI 0), bV_eq, e]
  rw [B_X6_lawStatement_44]
  simp only [gRd G, if_true, h.n0, not_false_iff, e162, ite_self]
/-- the last expression -/
theorem s_lawLast (d : Nat) {S : mS} {I : mI} {L : mJ} {K V : Nat → Int32} (G : Gd S) (k : TKV I L K V) {t u : Nat} (h : RD I t) (hu : I 28 2 = nI u) (hu2 : u ≤ t + 18) : ∃ res J, LSX K V t res ∧ evk zcod none (d + 42) zc_X6_lawStatement 162 [(0, .ref 31)] [] (S, I, L) = some (none, (S, J, L)) ∧ Fi rdA I J ∧ LWr I J u res := by
  have ht := h.1
  obtain ⟨l, s', J, x, e, f, c, us, q⟩ := s_sumL d (L := L) G k (s := (t, 0)) (Or.inl ⟨rfl, h⟩) u ⟨u, by omega, hu⟩ (fun _ => ⟨hu, by show u ≤ t + 20; omega⟩)
  obtain ⟨J2, e2, f2, us2, q2⟩ := s_lAddX (d + 41) (L := L) G us (-6) (u + l.length)
  refine ⟨_, J2, ⟨l, s', x, rfl⟩, ?_, f.tr (f2.up fun _ _ => adA_rd), ?_⟩
  · rw [B_X6_lawStatement_162]
    simp only [gRd G, gTop G, gLaw G, if_true, e, bV_eq, e2]
  · by_cases z : s'.2 = 0
    · rw [if_pos z]
      obtain ⟨a1, a2, a3⟩ := q z
      obtain ⟨b1, b2, b3, b4⟩ := LSX.ok k.2.2 ht x z
      obtain ⟨d1, d2, d3⟩ := q2 a1 (by omega)
      exact ⟨(c.rd z).cg f2, ⟨u + l.length + 1, d1, by omega, by omega, a2.lo fun j _ hj => d3 j hj, b4, d2, by omega⟩, fun j hj => (d3 j (by omega)).trans (a3 j hj)⟩
    · rw [if_neg z]
      exact ⟨(c.ft z).cg f2, us2⟩
theorem rd138 {K : Nat → Int32} {I : mI} {L : mJ} {V : Nat → Int32} (k : TKV I L K V) {t : Nat} (h : RD I t) : I 31 5 = K t := h.2.2.1.trans (congrFun k.1 t)
theorem s_lawLoop {S : mS} {L : mJ} {K V : Nat → Int32} (G : Gd S) : ∀ (n i d : Nat) (I : mI) (t u : Nat), i + n = 4 → TKV I L K V → RD I t → I 28 2 = nI u → u ≤ t + 18 → ∃ res J, LX K V n t res ∧ evk zcod none (d + 42) zc_X6_lawStatement 44 [(0, .ref 31), (2, .int (nI i))] [] (S, I, L) = some (none, (S, J, L)) ∧ Fi rdA I J ∧ LWr I J u res := by
  intro n
  induction n with
  | zero =>
    intro i d I t u hi k h hu hu2
    have i4 : i = 4 := by omega
    subst i4
    have ht := h.1
    have n4 : ¬ nI 4 < nI 4 := by decide +kernel
    by_cases c : K t = nI 138
    · obtain ⟨J1, e1, f1, m1⟩ := s_fail (d + 40) (L := L) G h (Or.inr rfl)
      have us1 : US J1 := ⟨u, by omega, (f1 28 2 (by omega)).trans hu⟩
      obtain ⟨y, J2, e2, f2, us2, -⟩ := s_addLess (d + 40) (L := L) G us1 0
      have m2 := m1.cg f2
      obtain ⟨J3, e3, f3, us3, -⟩ := s_lAddX (d + 41) (L := L) G us2 (-6) 0
      have m3 := m2.cg f3
      obtain ⟨J4, e4, f4, -⟩ := s_goHere (d + 41) (L := L) G us3 y
      have m4 := m3.cg (f4.up fun _ _ z => Or.inr z)
      obtain ⟨J5, e5, f5, m5, us5⟩ := s_lawOut d (L := L) G m4 (us3.cg (f4 28 2 (by omega))) (nI 4 + nI 1)
      refine ⟨_, J5, Or.inl ⟨c, rfl⟩, ?_, (f1.up fun _ _ => tkA_rd).tr (((f2.tr f3).tr ((f4.up fun _ _ z => Or.inr z).tr f5)).up fun _ _ => adA_rd), m5, us5⟩
      rw [B_X6_lawStatement_44]
      simp only [gRd G, if_true, n4, if_false, h.2.2.2.1, not_true, rd138 k h, c, e1, bV_eq]
      rw [B_X6_lawStatement_76]
      simp only [gRd G, if_true, s_take_bad (d + 41) (L := L) G m1.n0, s_sum_bad (d + 39) (L := L) G m1.n0, bI_eq, bV_eq]
      rw [B_X6_lawStatement_101]
      simp only [gRd G, gTop G, gLaw G, if_true, s_take_bad (d + 41) (L := L) G m1.n0, bI_eq, e2, s_sum_bad (d + 39) (L := L) G m2.n0, s_take_bad (d + 41) (L := L) G m2.n0, bV_eq]
      rw [B_X6_lawStatement_133]
      simp only [gRd G, gTop G, gLaw G, if_true, e3, bV_eq, e4]
      exact e5
    · obtain ⟨res, J, x, e, r⟩ := s_lawLast d (L := L) G k h hu hu2
      refine ⟨res, J, Or.inr ⟨c, x⟩, ?_, r⟩
      rw [B_X6_lawStatement_44]
      simp only [gRd G, if_true, n4, if_false, h.2.2.2.1, not_true, rd138 k h, c, not_false_iff]
      exact e
  | succ n ih =>
    intro i d I t u hi k h hu hu2
    have ht := h.1
    have n4 : ¬ nI 4 < nI i := nI_nlt (by omega) (by omega)
    have l4 : nI i < nI 4 := nI_lt (by omega) (by omega)
    by_cases c : K t = nI 138
    · have us0 : US I := ⟨u, by omega, hu⟩
      obtain ⟨y1, J1, e1, f1, m1⟩ := s_takeL (d + 39) (L := L) G k (s := (t, 0)) (Or.inl ⟨rfl, h⟩) (nI 138)
      have k1 := k.cg (f1.up fun _ _ => tkA_r)
      have w1 : J1 28 2 = nI u := (f1 _ _ (by unfold tkA; omega)).trans hu
      have r1 : J1 29 = I 29 := f1.row 29 fun j => by unfold tkA; omega
      have hs1 : (tk K (nI 138) (t, 0)).2 = 0 → (tk K (nI 138) (t, 0)).1 = t + 1 := fun z => by rw [(tk_ok z).2.2.2]
      obtain ⟨a, s2, J2, x2, e2, f2, m2, us2, q2⟩ := s_sumL d (L := L) G k1 m1 u ⟨u, by omega, w1⟩ (fun z => ⟨w1, by rw [hs1 z]; omega⟩)
      have k2 := k1.cg f2
      obtain ⟨y3, J3, e3, f3, m3⟩ := s_takeL (d + 39) (L := L) G k2 m2 (nI 60)
      have k3 := k2.cg (f3.up fun _ _ => tkA_r)
      have w3 : J3 28 2 = J2 28 2 := f3 _ _ (by unfold tkA; omega)
      have r3 : J3 29 = J2 29 := f3.row 29 fun j => by unfold tkA; omega
      have us3 : US J3 := us2.cg w3
      have b2 : s2.2 = 0 → a.length + (t + 1) ≤ s2.1 := fun z => by
        have p := (x2.ok z).2
        rw [(tk_ok (x2.ok z).1).2.2.2] at p
        have lt := (tk_ok (x2.ok z).1).2.2.1
        have r := (p.pr k.2.2 (show t + 1 ≤ 400 from lt) (by omega)).2.2.1
        have r' : a.length + (t + 1) ≤ 0 + s2.1 := r
        omega
      have hs3 : (tk K (nI 60) s2).2 = 0 → s2.2 = 0 ∧ (tk K (nI 60) s2).1 = s2.1 + 1 := fun z => ⟨(tk_ok z).1, by rw [(tk_ok z).2.2.2]⟩
      obtain ⟨b, s4, J4, x4, e4, f4, m4, us4, q4⟩ := s_sumL d (L := L) G k3 m3 (u + a.length) us3 (fun z => ⟨w3.trans (q2 (hs3 z).1).1, by rw [(hs3 z).2]; have := b2 (hs3 z).1; omega⟩)
      have k4 := k3.cg f4
      obtain ⟨y5, J5, e5, f5, m5⟩ := s_takeL (d + 39) (L := L) G k4 m4 (nI 139)
      have k5 := k4.cg (f5.up fun _ _ => tkA_r)
      have w5 : J5 28 2 = J4 28 2 := f5 _ _ (by unfold tkA; omega)
      have r5 : J5 29 = J4 29 := f5.row 29 fun j => by unfold tkA; omega
      obtain ⟨y, J6, e6, f6, us6, q6⟩ := s_addLess (d + 40) (L := L) G (us4.cg w5) (u + a.length + b.length)
      have k6 := k5.cg (f6.up fun _ _ => adA_rd)
      have m6 := m5.cg f6
      have b4 : s4.2 = 0 → a.length + b.length + (t + 2) ≤ s4.1 ∧ s4.1 ≤ 400 := fun z => by
        have g := (x4.ok z).1
        have p := (x4.ok z).2
        rw [(tk_ok g).2.2.2] at p
        have lt := (tk_ok g).2.2.1
        have pr := p.pr k.2.2 (show s2.1 + 1 ≤ 400 from lt) (by omega)
        have r' : b.length + (s2.1 + 1) ≤ 0 + s4.1 := pr.2.2.1
        have := b2 (tk_ok g).1
        have := pr.1
        omega
      have hs5 : (tk K (nI 139) s4).2 = 0 → s4.2 = 0 ∧ (tk K (nI 139) s4).1 = s4.1 + 1 := fun z => ⟨(tk_ok z).1, by rw [(tk_ok z).2.2.2]⟩
      have g5 : s4.2 = 0 → J5 28 2 = nI (u + a.length + b.length) := fun z => w5.trans (q4 z).1
      obtain ⟨cc, s6, J7, x6, e7, f7, m7, us7, q7⟩ := s_sumL d (L := L) G k6 m6 (u + a.length + b.length + 2) us6 (fun z => ⟨(q6 (g5 (hs5 z).1) (by have := b4 (hs5 z).1; omega)).2.1, by rw [(hs5 z).2]; have := b4 (hs5 z).1; omega⟩)
      have k7 := k6.cg f7
      obtain ⟨y8, J8, e8, f8, m8⟩ := s_takeL (d + 39) (L := L) G k7 m7 (nI 140)
      have k8 := k7.cg (f8.up fun _ _ => tkA_r)
      have w8 : J8 28 2 = J7 28 2 := f8 _ _ (by unfold tkA; omega)
      have r8 : J8 29 = J7 29 := f8.row 29 fun j => by unfold tkA; omega
      obtain ⟨J9, e9, f9, us9, q9⟩ := s_lAddX (d + 41) (L := L) G (us7.cg w8) (-6) (u + a.length + b.length + 2 + cc.length)
      have m9 := m8.cg f9
      have k9 := k8.cg (f9.up fun _ _ => adA_rd)
      obtain ⟨J10, e10, f10, q10⟩ := s_goHere (d + 41) (L := L) G us9 y
      have f10' : Fi adA J9 J10 := f10.up fun _ _ z => Or.inr z
      have m10 := m9.cg f10'
      have k10 := k9.cg (f10'.up fun _ _ => adA_rd)
      have w10 : J10 28 2 = J9 28 2 := f10 28 2 (by omega)
      have F : Fi rdA I J10 := ((((((((f1.up fun _ _ => tkA_r).tr f2).tr (f3.up fun _ _ => tkA_r)).tr f4).tr (f5.up fun _ _ => tkA_r)).tr (f6.up fun _ _ => adA_rd)).tr f7).tr (f8.up fun _ _ => tkA_r)).tr ((f9.up fun _ _ => adA_rd).tr (f10'.up fun _ _ => adA_rd))
      have walk : evk zcod none (d + 42) zc_X6_lawStatement 44 [(0, .ref 31), (2, .int (nI i))] [] (S, I, L) = evk zcod none (d + 42) zc_X6_lawStatement 44 [(0, .ref 31), (2, .int (nI (i + 1)))] [] (S, J10, L) := by
        rw [B_X6_lawStatement_44]
        simp only [gRd G, if_true, n4, if_false, h.2.2.2.1, not_true, rd138 k h, c, l4]
        rw [B_X6_lawStatement_76]
        simp only [gRd G, if_true, e1, bI_eq, e2, bV_eq, e3, e4]
        rw [B_X6_lawStatement_101]
        simp only [gRd G, gTop G, gLaw G, if_true, e5, bI_eq, e6, e7, bV_eq, e8]
        rw [B_X6_lawStatement_133]
        simp only [gRd G, gTop G, gLaw G, if_true, e9, bV_eq, e10, nI_add]
      have br : BRX K V t a b cc (tk K (nI 140) s6) := ⟨s2, s4, s6, x2, x4, x6, rfl⟩
      by_cases z7 : (tk K (nI 140) s6).2 = 0
      · obtain ⟨l1, l2, xa, xb, xc⟩ := br.ok k.2.2 ht z7
        obtain ⟨z6, _, lt6, t7⟩ := tk_ok z7
        obtain ⟨z5, _⟩ := x6.ok z6
        obtain ⟨z4, _, _, _⟩ := tk_ok z5
        obtain ⟨z3, _⟩ := x4.ok z4
        obtain ⟨z2, _, _, _⟩ := tk_ok z3
        have c2 := q2 z2
        have c4 := q4 z4
        have c6 := q6 (g5 z4) (by have := b4 z4; omega)
        have c7 := q7 z6
        have c9 := q9 (w8.trans c7.1) (by have := b4 z4; omega)
        have c10 := q10 (u + a.length + b.length + 1) (u + a.length + b.length + 2 + cc.length + 1) c6.1 c9.1 (by omega) (by omega)
        have rd := m10.rd z7
        obtain ⟨res, J, x, e, f, w⟩ := ih (i + 1) d J10 (tk K (nI 140) s6).1 (u + a.length + b.length + 2 + cc.length + 1) (by omega) k10 rd (w10.trans c9.1) (by omega)
        have lo10 : ∀ j, j < u + a.length + b.length + 2 + cc.length → ¬ j = u + a.length + b.length + 1 → J10 29 j = J7 29 j := fun j hj hn => (c10.2 j hn).trans ((c9.2.2 j hj).trans (congrFun r8 j))
        have lo6 : ∀ j, j < u + a.length + b.length → J10 29 j = J4 29 j := fun j hj => (lo10 j (by omega) (by omega)).trans ((c7.2.2 j (by omega)).trans ((c6.2.2.2 j hj).trans (congrFun r5 j)))
        have lo2 : ∀ j, j < u + a.length → J10 29 j = J2 29 j := fun j hj => (lo6 j (by omega)).trans ((c4.2.2 j hj).trans (congrFun r3 j))
        have lo0 : ∀ j, j < u → J10 29 j = I 29 j := fun j hj => (lo2 j (by omega)).trans ((c2.2.2 j hj).trans (congrFun r1 j))
        refine ⟨_, J, Or.inl ⟨c, a, b, cc, _, br, Or.inr ⟨z7, res, x, rfl⟩⟩, walk.trans e, F.tr f, ?_⟩
        match res, w with
        | Sum.inr (t', f'), w => exact w
        | Sum.inl (t', r, e'), ⟨w1, ⟨u', w2, w3, w4, w5⟩, w6⟩ =>
          refine ⟨w1, ⟨u', w2, w3, by omega, ?_, xa, ?_, xb, ?_, ?_, ?_, xc, ?_, w5⟩, fun j hj => (w6 j (by omega)).trans (lo0 j hj)⟩
          · exact c2.2.1.lo fun j _ hj => (w6 j (by omega)).trans (lo2 j hj)
          · exact c4.2.1.lo fun j _ hj => (w6 j (by omega)).trans (lo6 j hj)
          · rw [w6 _ (by omega), lo10 _ (by omega) (by omega), c7.2.2 _ (by omega), c6.2.2.1]
          · rw [w6 _ (by omega), c10.1]
          · exact c7.2.1.lo fun j hj1 hj => (w6 j (by omega)).trans (lo10 j hj (by omega))
          · rw [w6 _ (by omega), c10.2 _ (by omega), c9.2.1]
      · have ft := m10.ft z7
        obtain ⟨J, e, f, m, us⟩ := s_lawOut d (L := L) G ft (us9.cg w10) (nI (i + 1))
        exact ⟨Sum.inr (tk K (nI 140) s6), J, Or.inl ⟨c, a, b, cc, _, br, Or.inl ⟨z7, rfl⟩⟩, walk.trans e, F.tr (f.up fun _ _ => adA_rd), m, us⟩
    · obtain ⟨res, J, x, e, r⟩ := s_lawLast d (L := L) G k h hu hu2
      refine ⟨res, J, Or.inr ⟨c, x⟩, ?_, r⟩
      rw [B_X6_lawStatement_44]
      simp only [gRd G, if_true, n4, if_false, h.2.2.2.1, not_true, rd138 k h, c, not_false_iff]
      exact e
