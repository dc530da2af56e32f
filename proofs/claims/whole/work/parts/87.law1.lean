/-! a law as it is told: both sides go through the same steps; (t, f): the token in hand, the fault (0: none) -/
abbrev mSt : Type := Nat × Nat
def tk (K : Nat → Int32) (x : Int32) (s : mSt) : mSt := if s.2 = 0 then (if K s.1 = x then (if s.1 < 400 then (s.1 + 1, 0) else (s.1, 2)) else (s.1, 1)) else s
def EXR (K V : Nat → Int32) (s : mSt) (l : List Int32) (s' : mSt) : Prop := (s.2 = 0 ∧ s'.2 = 0 ∧ PX K V 3 0 s.1 [] (Sum.inl (s'.1, l))) ∨ (s.2 = 0 ∧ ¬ s'.2 = 0 ∧ PX K V 3 0 s.1 [] (Sum.inr s') ∧ l = []) ∨ (¬ s.2 = 0 ∧ s' = s ∧ l = [])
abbrev mBr : Type := List Int32 × List Int32 × List Int32
abbrev LXr : Type := Sum (Nat × List mBr × List Int32) (Nat × Nat)
def cR (x : mBr) : LXr → LXr
  | Sum.inl (t, r, e) => Sum.inl (t, x :: r, e)
  | Sum.inr s => Sum.inr s
def BRX (K V : Nat → Int32) (t : Nat) (a b c : List Int32) (s7 : mSt) : Prop := ∃ s2 s4 s6 : mSt, EXR K V (tk K (nI 138) (t, 0)) a s2 ∧ EXR K V (tk K (nI 60) s2) b s4 ∧ EXR K V (tk K (nI 139) s4) c s6 ∧ s7 = tk K (nI 140) s6
def LSX (K V : Nat → Int32) (t : Nat) (res : LXr) : Prop := ∃ (l : List Int32) (s' : mSt), EXR K V (t, 0) l s' ∧ res = if s'.2 = 0 then Sum.inl (s'.1, [], l) else Sum.inr s'
/-- from an if, or from the last expression, on; n more ifs may come -/
def LX (K V : Nat → Int32) : Nat → Nat → LXr → Prop
  | 0, t, res => (K t = nI 138 ∧ res = Sum.inr (t, 2)) ∨ (¬ K t = nI 138 ∧ LSX K V t res)
  | n + 1, t, res => (K t = nI 138 ∧ ∃ a b c s7, BRX K V t a b c s7 ∧ ((¬ s7.2 = 0 ∧ res = Sum.inr s7) ∨ (s7.2 = 0 ∧ ∃ res', LX K V n s7.1 res' ∧ res = cR (a, b, c) res'))) ∨ (¬ K t = nI 138 ∧ LSX K V t res)
theorem tk_ok {K : Nat → Int32} {x : Int32} {s : mSt} (h : (tk K x s).2 = 0) : s.2 = 0 ∧ K s.1 = x ∧ s.1 < 400 ∧ tk K x s = (s.1 + 1, 0) := by
  unfold tk at h ⊢
  by_cases c0 : s.2 = 0
  · rw [if_pos c0] at h ⊢
    by_cases c1 : K s.1 = x
    · rw [if_pos c1] at h ⊢
      by_cases c2 : s.1 < 400
      · rw [if_pos c2]
        exact ⟨c0, c1, c2, rfl⟩
      · rw [if_neg c2] at h
        exact absurd (show 2 = 0 from h) (by decide)
    · rw [if_neg c1] at h
      exact absurd (show 1 = 0 from h) (by decide)
  · rw [if_neg c0] at h
    exact absurd h c0
theorem EXR.ok {K V : Nat → Int32} {s s' : mSt} {l : List Int32} (h : EXR K V s l s') (q : s'.2 = 0) : s.2 = 0 ∧ PX K V 3 0 s.1 [] (Sum.inl (s'.1, l)) := by
  rcases h with ⟨h1, h2, h3⟩ | ⟨_, h2, _⟩ | ⟨h1, h2, _⟩
  · exact ⟨h1, h3⟩
  · exact absurd q h2
  · rw [h2] at q
    exact absurd q h1
/-- what a good branch has told -/
theorem BRX.ok {K V : Nat → Int32} (hV : ∀ t, K t = nI 3 → nI 0 ≤ V t) {t : Nat} {a b c : List Int32} {s7 : mSt} (ht : t ≤ 400) (h : BRX K V t a b c s7) (q : s7.2 = 0) : a.length + b.length + c.length + t + 4 ≤ s7.1 ∧ s7.1 ≤ 400 ∧ EX 15 a ∧ EX 15 b ∧ EX 15 c := by
  obtain ⟨s2, s4, s6, h2, h4, h6, e7⟩ := h
  rw [e7] at q ⊢
  obtain ⟨q6, k6, l6, e6⟩ := tk_ok q
  obtain ⟨q5, p6⟩ := h6.ok q6
  obtain ⟨q4, k4, l4, e4⟩ := tk_ok q5
  obtain ⟨q3, p4⟩ := h4.ok q4
  obtain ⟨q2, k2, l2, e2⟩ := tk_ok q3
  obtain ⟨q1, p2⟩ := h2.ok q2
  obtain ⟨_, k0, l0, e0⟩ := tk_ok q1
  rw [e0] at p2
  rw [e2] at p4
  rw [e4] at p6
  have r2 := p2.pr hV (by show t + 1 ≤ 400; exact l0) (by omega)
  have r4 := p4.pr hV (by show s2.1 + 1 ≤ 400; omega) (by omega)
  have r6 := p6.pr hV (by show s4.1 + 1 ≤ 400; omega) (by omega)
  have a1 : a.length + (t + 1) ≤ 0 + s2.1 := r2.2.2.1
  have a2 : b.length + (s2.1 + 1) ≤ 0 + s4.1 := r4.2.2.1
  have a3 : c.length + (s4.1 + 1) ≤ 0 + s6.1 := r6.2.2.1
  refine ⟨?_, ?_, r2.2.2.2.2.2.2.2.1 rfl, r4.2.2.2.2.2.2.2.1 rfl, r6.2.2.2.2.2.2.2.1 rfl⟩
  · rw [e6]
    show _ ≤ s6.1 + 1
    omega
  · rw [e6]
    exact l6
theorem LSX.ok {K V : Nat → Int32} (hV : ∀ t, K t = nI 3 → nI 0 ≤ V t) {t : Nat} {l : List Int32} {s' : mSt} (ht : t ≤ 400) (h : EXR K V (t, 0) l s') (q : s'.2 = 0) : l.length + t ≤ s'.1 ∧ t < s'.1 ∧ s'.1 ≤ 400 ∧ EX 15 l := by
  have r := (h.ok q).2.pr hV ht (by omega)
  have a1 : l.length + t ≤ 0 + s'.1 := r.2.2.1
  exact ⟨by omega, r.2.2.2.1 (Or.inr (Or.inr rfl)), r.1, r.2.2.2.2.2.2.2.1 rfl⟩
/-! the class's steps -/
def CSt (I : mI) (s : mSt) : Prop := (s.2 = 0 ∧ RD I s.1) ∨ FT I s.1 s.2
theorem CSt.rd {I : mI} {s : mSt} (h : CSt I s) (q : s.2 = 0) : RD I s.1 := by
  rcases h with h | h
  · exact h.2
  · rcases h.2.1 with z | z <;> (rw [z] at q; cases q)
theorem CSt.ft {I : mI} {s : mSt} (h : CSt I s) (q : ¬ s.2 = 0) : FT I s.1 s.2 := h.resolve_left fun z => q z.1
theorem CSt.cg {I J : mI} {s : mSt} (h : CSt I s) (f : Fi adA I J) : CSt J s := by
  rcases h with ⟨h1, h2⟩ | h
  · exact Or.inl ⟨h1, h2.cg f⟩
  · exact Or.inr (h.cg f)
def tkA (a j : Nat) : Prop := a = 31 ∧ 4 ≤ j ∧ j ≤ 7
theorem tkA_r {a j : Nat} (h : tkA a j) : rdA a j := Or.inl h
theorem s_takeL (d : Nat) {S : mS} {I : mI} {L : mJ} {K V : Nat → Int32} (G : Gd S) (k : TKV I L K V) {s : mSt} (h : CSt I s) (x : Int32) : ∃ y J, evM zcod (d + 3) 62 [.ref 31, .int x] (S, I, L) = some (some (.int y), (S, J, L)) ∧ Fi tkA I J ∧ CSt J (tk K x s) := by
  by_cases q : s.2 = 0
  · have hr := h.rd q
    have kt : I 34 s.1 = K s.1 := congrFun k.1 s.1
    unfold tk
    rw [if_pos q]
    by_cases c1 : K s.1 = x
    · rw [if_pos c1]
      by_cases c2 : s.1 < 400
      · rw [if_pos c2]
        exact ⟨_, _, s_take_ok (d + 1) G hr (kt.trans c1) c2, Fi.u (Fi.u Fi.rf ⟨rfl, by omega, by omega⟩) ⟨rfl, by omega, by omega⟩, Or.inl ⟨rfl, hr.take c2⟩⟩
      · rw [if_neg c2]
        obtain ⟨J, e, f, m⟩ := s_take_room d (L := L) G hr (kt.trans c1) c2
        exact ⟨_, J, e, f.up fun _ _ z => ⟨z.1, by omega, by omega⟩, Or.inr m⟩
    · rw [if_neg c1]
      obtain ⟨J, e, f, m⟩ := s_take_syn d (L := L) G hr (x := x) (by rw [kt]; exact c1)
      exact ⟨_, J, e, f.up fun _ _ z => ⟨z.1, by omega, by omega⟩, Or.inr m⟩
  · have hf := h.ft q
    refine ⟨_, I, s_take_bad (d + 2) G hf.n0 x, Fi.rf, ?_⟩
    unfold tk
    rw [if_neg q]
    exact h
def US (I : mI) : Prop := ∃ v, v ≤ 432 ∧ I 28 2 = nI v
theorem US.cg {I J : mI} (h : US I) (e : J 28 2 = I 28 2) : US J := by
  obtain ⟨v, h1, h2⟩ := h
  exact ⟨v, h1, e.trans h2⟩
theorem s_sumL (d : Nat) {S : mS} {I : mI} {L : mJ} {K V : Nat → Int32} (G : Gd S) (k : TKV I L K V) {s : mSt} (h : CSt I s) (u : Nat) (hu : US I) (hu2 : s.2 = 0 → I 28 2 = nI u ∧ u ≤ s.1 + 20) : ∃ l s' J, EXR K V s l s' ∧ evM zcod (d + 42) 59 [.ref 31, .int (nI 0)] (S, I, L) = some (none, (S, J, L)) ∧ Fi rdA I J ∧ CSt J s' ∧ US J ∧ (s'.2 = 0 → J 28 2 = nI (u + l.length) ∧ LCf (J 29) u l ∧ ∀ j, j < u → J 29 j = I 29 j) := by
  by_cases q : s.2 = 0
  · obtain ⟨g1, g2⟩ := hu2 q
    have hr := h.rd q
    obtain ⟨r, J, p, e, f, x⟩ := s_expr (S := S) (L := L) (K := K) (V := V) G d I s.1 u k hr g1 g2
    have pr := p.pr k.2.2 hr.1 (Nat.zero_le _)
    match r, p, x, pr with
    | Sum.inl (t', o), p, ⟨x1, x2, x3, x4⟩, pr =>
      have l2 : o.length + s.1 ≤ 0 + t' := pr.2.2.1
      have l3 := pr.1
      exact ⟨o, (t', 0), J, Or.inl ⟨q, rfl, p⟩, e, f, Or.inl ⟨rfl, x1⟩, ⟨u + o.length, by omega, x2⟩, fun _ => ⟨x2, x3, x4⟩⟩
    | Sum.inr (t', f'), p, ⟨x1, x2⟩, pr =>
      have n0 : ¬ f' = 0 := by rcases pr.2.2 with z | z <;> omega
      exact ⟨[], (t', f'), J, Or.inr (Or.inl ⟨q, n0, p, rfl⟩), e, f, Or.inr x1, x2, fun z => absurd z n0⟩
  · exact ⟨[], s, I, Or.inr (Or.inr ⟨q, rfl, rfl⟩), s_sum_bad (d + 39) G (h.ft q).n0 _, Fi.rf, h, hu, fun z => absurd z q⟩
theorem s_lAddX (d : Nat) {S : mS} {I : mI} {L : mJ} (G : Gd S) (h : US I) (c : Int32) (u : Nat) : ∃ J, evM zcod (d + 1) 14 [.ref 28, .int c] (S, I, L) = some (none, (S, J, L)) ∧ Fi adA I J ∧ US J ∧ (I 28 2 = nI u → u < 432 → J 28 2 = nI (u + 1) ∧ J 29 u = c ∧ ∀ j, j < u → J 29 j = I 29 j) := by
  by_cases q : I 28 2 = nI u ∧ u < 432
  · refine ⟨_, s_lAdd d G q.1 q.2 c, Fi.u (Fi.u Fi.rf (Or.inr rfl)) (Or.inl ⟨rfl, rfl⟩), ⟨u + 1, by omega, uI_same _ _ _ _⟩, fun _ _ => ⟨uI_same _ _ _ _, ?_, fun j hj => ?_⟩⟩
    · rw [uI_off (by omega), uI_same]
    · rw [uI_off (by omega), uI_ix (by omega)]
  · obtain ⟨J, e, f, us⟩ := s_lAdd0 d (L := L) G h c
    exact ⟨J, e, f, us, fun z1 z2 => absurd ⟨z1, z2⟩ q⟩
theorem s_addLess (d : Nat) {S : mS} {I : mI} {L : mJ} (G : Gd S) (h : US I) (u : Nat) : ∃ y J, evM zcod (d + 2) 15 [.ref 28] (S, I, L) = some (some (.int y), (S, J, L)) ∧ Fi adA I J ∧ US J ∧ (I 28 2 = nI u → u < 431 → y = nI (u + 1) ∧ J 28 2 = nI (u + 2) ∧ J 29 u = -5 ∧ ∀ j, j < u → J 29 j = I 29 j) := by
  obtain ⟨J1, e1, f1, u1, x1⟩ := s_lAddX d (L := L) G h (-5) u
  obtain ⟨J2, e2, f2, u2, x2⟩ := s_lAddX d (L := L) G u1 (nI 0) (u + 1)
  refine ⟨J2 28 2 - nI 1, J2, ?_, f1.tr f2, u2, fun q1 q2 => ?_⟩
  · rw [E_X3_addLess]
    simp only [B_X3_addLess_0, gLaw G, if_true, e1, bV_eq, e2]
  · obtain ⟨a1, a2, a3⟩ := x1 q1 (by omega)
    obtain ⟨b1, b2, b3⟩ := x2 a1 (by omega)
    refine ⟨?_, b1, (b3 u (by omega)).trans a2, fun j hj => (b3 j (by omega)).trans (a3 j hj)⟩
    rw [b1, pk_sub (by omega), show u + 1 + 1 - 1 = u + 1 by omega]
theorem s_goHere (d : Nat) {S : mS} {I : mI} {L : mJ} (G : Gd S) (h : US I) (x : Int32) : ∃ J, evM zcod (d + 1) 16 [.ref 28, .int x] (S, I, L) = some (none, (S, J, L)) ∧ Fi (fun a _ => a = 29) I J ∧ ∀ p v, x = nI p → I 28 2 = nI v → p < v → v ≤ 432 → J 29 p = nI v ∧ ∀ j, ¬ j = p → J 29 j = I 29 j := by
  obtain ⟨v, h1, h2⟩ := h
  rw [E_X3_goHereFrom]
  by_cases c1 : x < nI 0
  · refine ⟨I, ?_, Fi.rf, fun p v' e _ _ _ => ?_⟩
    · simp only [B_X3_goHereFrom_0, B_X3_goHereFrom_22, c1, if_true]
    · rw [e] at c1
      exact absurd c1 (n_pos (n := p) (by omega))
  · by_cases c2 : I 28 2 ≤ x
    · refine ⟨I, ?_, Fi.rf, fun p v' e e2 e3 e4 => ?_⟩
      · simp only [B_X3_goHereFrom_0, B_X3_goHereFrom_22, c1, if_false, gLaw G, if_true, c2]
      · rw [e2, e] at c2
        exact absurd c2 (nI_ge e3 (by omega))
    · have b0' : 0 ≤ x.toInt := by
        rw [i_lt, t_nI (by omega)] at c1
        omega
      have b2 : x.toInt < v := by
        rw [i_le, h2, t_nI (by omega)] at c2
        omega
      obtain ⟨p, hp, e⟩ := i_of2 b0' b2
      have xp : zin (nI p) 432 = True := ixT (by omega) (by omega)
      have xi : zix (nI p) = p := ixI (by omega)
      refine ⟨uI I 29 p (nI v), ?_, Fi.u Fi.rf rfl, fun p' v' e1 e2 _ _ => ?_⟩
      · simp only [B_X3_goHereFrom_0, B_X3_goHereFrom_22, c1, if_false, gLaw G, if_true, c2, true_and]
        simp only [e, xp, xi, if_true, h2]
      · have ep : p' = p := by
          rw [e, i_eq, t_nI (by omega), t_nI (by omega)] at e1
          omega
        have ev : v' = v := by
          rw [h2, i_eq, t_nI (by omega), t_nI (by omega)] at e2
          omega
        subst ep ev
        exact ⟨uI_same _ _ _ _, fun j hj => uI_ix hj⟩
