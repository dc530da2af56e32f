/-! a text, class side: what is told so far, a statement -/
def LWS (I : mI) (t : Nat) (lw : Nat → mLaw) : Prop := ∃ u, I 28 2 = nI u ∧ u ≤ t + 18 ∧ ∀ k, k < 4 → ∃ p, I 30 k = nI p ∧ LWf (I 29) u p (lw k).1 (lw k).2
def DRF (I : mI) (L : mJ) (t : Nat) (T : mTx) : Prop := DL I (tLo T) (tSt T) ∧ DS I (tSi T) (tSt T) ∧ DH I (tHo T) (tSt T) ∧ (I 20 2 = tSt T 0 ∧ I 20 3 = tSt T 1 ∧ I 20 4 = tSt T 2) ∧ LWS I t (tLw T) ∧ NMc I L (tNm T) ∧ LT I (tLt T)
def stG (a j : Nat) : Prop := a = 31 ∧ 3 ≤ j ∧ j ≤ 9 ∨ a = 20 ∧ 2 ≤ j ∧ j ≤ 4 ∨ 22 ≤ a ∧ a ≤ 30 ∧ ¬ ((a = 22 ∨ a = 24 ∨ a = 26) ∧ j < 2)
theorem DL.cg {I J : mI} {n : Nat} {st st' : Nat → Int32} (h : DL I n st) (e22 : ∀ j, J 22 j = I 22 j) (e23 : ∀ j, J 23 j = I 23 j) (es : ∀ i, i < n → st' (60 + i) = st (60 + i) ∧ st' (10 + i) = st (10 + i) ∧ st' (20 + i) = st (20 + i)) : DL J n st' := by
  obtain ⟨h1, h2, h3, h4⟩ := h
  refine ⟨(e22 _).trans h1, (e22 _).trans h2, (e22 _).trans h3, fun i hi => ?_⟩
  obtain ⟨a1, a2, a3, a4, a5, a6, a7⟩ := h4 i hi
  obtain ⟨b1, b2, b3⟩ := es i hi
  exact ⟨(e23 _).trans (a1.trans b1.symm), (e23 _).trans (a2.trans b2.symm), (e23 _).trans (a3.trans b3.symm), (e23 _).trans a4, (e23 _).trans a5, (e23 _).trans a6, (e23 _).trans a7⟩
theorem DS.cg {I J : mI} {n : Nat} {st st' : Nat → Int32} (h : DS I n st) (e24 : ∀ j, J 24 j = I 24 j) (e25 : ∀ j, J 25 j = I 25 j) (es : ∀ i, i < n → st' (30 + i) = st (30 + i) ∧ st' (80 + i) = st (80 + i)) : DS J n st' := by
  obtain ⟨h1, h2, h3, h4⟩ := h
  refine ⟨(e24 _).trans h1, (e24 _).trans h2, (e24 _).trans h3, fun i hi => ?_⟩
  obtain ⟨a1, a2, a3, a4⟩ := h4 i hi
  obtain ⟨b1, b2⟩ := es i hi
  exact ⟨(e25 _).trans (a1.trans b1.symm), (e25 _).trans a2, (e25 _).trans a3, (e25 _).trans (a4.trans b2.symm)⟩
theorem DH.cg {I J : mI} {n : Nat} {st st' : Nat → Int32} (h : DH I n st) (e26 : ∀ j, J 26 j = I 26 j) (e27 : ∀ j, J 27 j = I 27 j) (es : ∀ i, i < n → st' (70 + i) = st (70 + i) ∧ st' (40 + i) = st (40 + i) ∧ st' (50 + i) = st (50 + i)) : DH J n st' := by
  obtain ⟨h1, h2, h3, h4⟩ := h
  refine ⟨(e26 _).trans h1, (e26 _).trans h2, (e26 _).trans h3, fun i hi => ?_⟩
  obtain ⟨a1, a2, a3, a4⟩ := h4 i hi
  obtain ⟨b1, b2, b3⟩ := es i hi
  exact ⟨(e27 _).trans (a1.trans b1.symm), (e27 _).trans (a2.trans b2.symm), (e27 _).trans (a3.trans b3.symm), (e27 _).trans a4⟩
theorem LWS.cg {I J : mI} {t t' : Nat} {lw : Nat → mLaw} (h : LWS I t lw) (e28 : J 28 2 = I 28 2) (e29 : ∀ j, J 29 j = I 29 j) (e30 : ∀ j, J 30 j = I 30 j) (q : t ≤ t') : LWS J t' lw := by
  obtain ⟨u, h1, h2, h3⟩ := h
  refine ⟨u, e28.trans h1, by omega, fun k hk => ?_⟩
  obtain ⟨p, a1, a2⟩ := h3 k hk
  exact ⟨p, (e30 _).trans a1, a2.cg e29⟩
theorem NMc.cg {I J : mI} {L : mJ} {nm : List Nat} (h : NMc I L nm) (e : J 31 3 = I 31 3) : NMc J L nm := ⟨e.trans h.1, h.2⟩
theorem s_stEnd (d : Nat) {S : mS} {I : mI} {L : mJ} {K V : Nat → Int32} (G : Gd S) (k : TKV I L K V) {s : mSt} (h : CSt I s) : ∃ J, evk zcod none (d + 3) zc_X6_statement 145 [(0, .ref 31)] [] (S, I, L) = some (none, (S, J, L)) ∧ Fi tkA I J ∧ CSt J (tk K (nI 59) s) := by
  obtain ⟨y, J, e, f, c⟩ := s_takeL d (L := L) G k h (nI 59)
  refine ⟨J, ?_, f, c⟩
  rw [B_X6_statement_145]
  simp only [gRd G, if_true, e, bI_eq]
theorem s_setting (d : Nat) {S : mS} {I : mI} {L : mJ} {K V : Nat → Int32} (G : Gd S) (k : TKV I L K V) (h32 : I 32 4 = nI 401) {t : Nat} (h : RD I t) (lo hi : Int32) {l : Nat × Nat} (hl : LT I l) : ∃ y J, evM zcod (d + 5) 57 [.ref 31, .int lo, .int hi] (S, I, L) = some (some (.int y), (S, J, L)) ∧ Fi nuF I J ∧ CSt J (tk K (nI 3) (tk K (K t) (t, 0))) ∧ ((tk K (nI 3) (tk K (K t) (t, 0))).2 = 0 → y = V (tk K (K t) (t, 0)).1 ∧ LT J (nbl V (nI 1) lo hi (tk K (K t) (t, 0)) l)) := by
  have k31 := rd138 k h
  obtain ⟨y1, J1, e1, f1, c1⟩ := s_takeL (d + 1) (L := L) G k (s := (t, 0)) (Or.inl ⟨rfl, h⟩) (K t)
  have hl1 : LT J1 l := hl.cg (f1 _ _ (by unfold tkA; omega)) (f1 _ _ (by unfold tkA; omega)) (fun t => f1 _ _ (by unfold tkA; omega))
  obtain ⟨y, J, e, f, c, q⟩ := s_takeNumber d (L := L) G (k.cg (f1.up fun _ _ => tkA_r)) ((f1 _ _ (by unfold tkA; omega)).trans h32) c1 (nI 1) lo hi (l := l) (fun _ => hl1)
  refine ⟨y, J, ?_, (f1.up fun _ _ => tkA_nu).tr f, c, fun z => ?_⟩
  · rw [E_X6_setting, B_X6_setting_0]
    simp only [gRd G, if_true, k31, e1, bI_eq, e]
  · obtain ⟨a1, a2⟩ := q z
    rw [one_m] at a1
    exact ⟨a1, a2⟩
theorem s_lawBegin (d : Nat) {S : mS} {I : mI} {L : mJ} (G : Gd S) {k : Nat} (hk : k < 4) : evM zcod (d + 1) 12 [.ref 28, .int (nI k)] (S, I, L) = some (none, (S, uI I 30 k (I 28 2), L)) := by
  rw [E_X3_begin]
  simp only [B_X3_begin_0, B_X3_begin_23, gLaw G, if_true, true_and]
  rw [if_neg (n_pos (n := k) (by omega)), if_neg (nI_ge hk (by omega)), if_pos (ixP (by omega) (by omega)), ixI (by omega)]
theorem law_sub : ∀ k, k < 4 → nI (131 + k) - nI 131 = nI k := by decide +kernel
def lsF (a j : Nat) : Prop := rdA a j ∨ a = 30
theorem lsF_st {a j : Nat} (h : lsF a j) : stG a j := by unfold lsF rdA at h; unfold stG; omega
/-- a law's statement -/
theorem s_lawSt (d : Nat) {S : mS} {I : mI} {L : mJ} {K V : Nat → Int32} (G : Gd S) (k : TKV I L K V) {t kl : Nat} (hk : kl < 4) (h : RD I t) (hkt : K t = nI (131 + kl)) {lw : Nat → mLaw} (hl : LWS I t lw) : ∃ s2 J, s2 = tk K (nI 61) (tk K (K t) (t, 0)) ∧ evM zcod (d + 43) 58 [.ref 31, .int (nI kl)] (S, I, L) = some (none, (S, J, L)) ∧ Fi lsF I J ∧ ((¬ s2.2 = 0 ∧ FT J s2.1 s2.2) ∨ (s2.2 = 0 ∧ ∃ r, LX K V 4 s2.1 r ∧ ((∃ t' f, r = Sum.inr (t', f) ∧ FT J t' f) ∨ ∃ t' b e, r = Sum.inl (t', b, e) ∧ RD J t' ∧ ∀ t2, t' < t2 → LWS J t2 (upW lw kl (b, e))))) := by
  obtain ⟨u, u1, u2, u3⟩ := hl
  have ht := h.1
  have k31 := rd138 k h
  obtain ⟨y1, J1, e1, f1, c1⟩ := s_takeL (d + 39) (L := L) G k (s := (t, 0)) (Or.inl ⟨rfl, h⟩) (K t)
  have k1 := k.cg (f1.up fun _ _ => tkA_r)
  obtain ⟨y2, J2, e2, f2, c2⟩ := s_takeL (d + 39) (L := L) G k1 c1 (nI 61)
  have k2 := k1.cg (f2.up fun _ _ => tkA_r)
  have f12 := f1.tr f2
  have e3 := s_lawBegin (d + 41) (I := J2) (L := L) G hk
  let J3 := uI J2 30 kl (J2 28 2)
  have f3 : Fi lsF J2 J3 := Fi.u Fi.rf (Or.inr rfl)
  have F3 : Fi lsF I J3 := (f12.up fun _ _ z => Or.inl (tkA_r z)).tr f3
  have u28 : J3 28 2 = nI u := (uI_off (by omega)).trans ((f12 _ _ (by unfold tkA; omega)).trans u1)
  have c3 : CSt J3 (tk K (nI 61) (tk K (K t) (t, 0))) := c2.fi (fun j => uI_off (by omega)) (fun j => uI_off (by omega)) (fun j => uI_off (by omega)) (uI_off (by omega))
  have k3 : TKV J3 L K V := ⟨(f3.row 34 fun j => by unfold lsF rdA; omega).trans k2.1, k2.2⟩
  have w : evM zcod (d + 43) 58 [.ref 31, .int (nI kl)] (S, I, L) = evk zcod none (d + 42) zc_X6_lawStatement 44 [(0, .ref 31), (2, .int (nI 0))] [] (S, J3, L) := by
    rw [E_X6_lawStatement, B_X6_lawStatement_0]
    have q : (if nI 0 ≤ nI kl ∧ nI kl ≤ nI 3 then nI 1 else nI 0) = nI 1 := if_pos ⟨nI_le (Nat.zero_le _) (by omega), nI_le (by omega) (by omega)⟩
    simp only [s_isWithin, bI_eq, if_true, q, z10, not_false_iff]
    rw [B_X6_lawStatement_15]
    simp only [gRd G, gTop G, gLaw G, if_true, k31, e1, bI_eq, e2, e3, bV_eq]
    rfl
  by_cases z : (tk K (nI 61) (tk K (K t) (t, 0))).2 = 0
  · have hz := c3.rd z
    obtain ⟨z1, -, g2, l2⟩ := tk_le z
    obtain ⟨-, -, g1, -⟩ := tk_le z1
    have g1' : (tk K (K t) (t, 0)).1 = t + 1 := g1
    obtain ⟨r, J, x, e, f, lr⟩ := s_lawLoop (L := L) G 4 0 d J3 (tk K (nI 61) (tk K (K t) (t, 0))).1 u rfl k3 hz u28 (by omega)
    refine ⟨_, J, rfl, w.trans e, F3.tr (f.up fun _ _ => Or.inl), Or.inr ⟨z, r, x, ?_⟩⟩
    match r, lr with
    | Sum.inr (t', f'), lr => exact Or.inl ⟨t', f', rfl, lr.1⟩
    | Sum.inl (t', b, e'), ⟨q1, ⟨u', q2, q3, q4, q5⟩, q6⟩ =>
      refine Or.inr ⟨t', b, e', rfl, q1, fun t2 ht2 => ⟨u', q2, by omega, fun j hj => ?_⟩⟩
      have j30 : J 30 j = J3 30 j := f _ _ (by unfold rdA; omega)
      unfold upW
      by_cases c : j = kl
      · rw [if_pos c]
        refine ⟨u, ?_, q5⟩
        rw [j30, c]
        exact (uI_same _ _ _ _).trans ((f12 _ _ (by unfold tkA; omega)).trans u1)
      · rw [if_neg c]
        obtain ⟨p, p1, p2⟩ := u3 j hj
        refine ⟨p, ?_, p2.lo (fun i hi => (q6 i hi).trans ?_) q4⟩
        · rw [j30]
          exact (uI_ix (by omega)).trans ((f12 _ _ (by unfold tkA; omega)).trans p1)
        · exact (uI_off (by omega)).trans (f12 _ _ (by unfold tkA; omega))
  · have hz := c3.ft z
    obtain ⟨J, e, f, q, -⟩ := s_lawOut d (L := L) G hz ⟨u, by omega, u28⟩ (nI 0)
    exact ⟨_, J, rfl, w.trans e, F3.tr (f.up fun _ _ q => Or.inl (adA_rd q)), Or.inl ⟨z, q⟩⟩
theorem n_ne {a b : Nat} (ha : a < 1000) (hb : b < 1000) (h : ¬ a = b) : ¬ nI a = nI b := by
  rw [i_eq, t_nI (by omega), t_nI (by omega)]
  omega
theorem s_statement (d : Nat) {S : mS} {I : mI} {L : mJ} {K V : Nat → Int32} {N : Nat → Int64} (G : Gd S) (k : TKV I L K V) (hN : L 36 = N) (h32 : I 32 4 = nI 401) {t : Nat} {T : mTx} (h : RD I t) (hD : DRF I L t T) (hT : TOK K t T) : ∃ res J L', STX K V N t T res ∧ evM zcod (d + 48) 53 [.ref 31] (S, I, L) = some (none, (S, J, L')) ∧ Fi stG I J ∧ (∀ a j, ¬ a = 38 → L' a j = L a j) ∧ match res with
    | Sum.inl (t', T') => RD J t' ∧ DRF J L' t' T'
    | Sum.inr (t', f) => FT J t' f := by
  subst hN
  obtain ⟨D1, D2, D3, ⟨D4, D5, D6⟩, D7, D8, D9⟩ := hD
  obtain ⟨q1, q2, q3, q4, q5, q6, q7⟩ := hT
  have k31 := rd138 k h
  have w0 : evM zcod (d + 48) 53 [.ref 31] (S, I, L) = evk zcod none (d + 47) zc_X6_statement 0 [(0, .ref 31)] [] (S, I, L) := by rw [E_X6_statement]
  have tkS : ∀ {a j : Nat}, tkA a j → stG a j := fun h => by unfold tkA at h; unfold stG; omega
  by_cases a0 : K t = nI 128
  · obtain ⟨J, L', e, f, lo, c, q⟩ := s_loadSt (d + 42) (L := L) G k h32 h D1 q1 D9 D8 (fun z => by omega) rfl rfl rfl rfl rfl
    have fS : Fi stG I J := f.up fun _ _ z => by unfold ldF naF at z; unfold stG; omega
    have kJ : TKV J L' K V := (TKV.lg (L' := L') ⟨(fS.row 34 fun j => by unfold stG; omega).trans k.1, k.2⟩ fun j => lo 36 j (by omega))
    obtain ⟨J2, e2, f2, c2⟩ := s_stEnd (d + 44) (L := L') G kJ c
    refine ⟨_, J2, L', Or.inl ⟨a0, _, _, _, _, _, rfl, rfl, rfl, rfl, rfl, rfl⟩, ?_, fS.tr (f2.up fun _ _ => tkS), lo, ?_⟩
    · rw [w0, B_X6_statement_0]
      simp only [gRd G, if_true, k31, a0]
      rw [B_X6_statement_60]
      simp only [gRd G, if_true, e, bV_eq]
      exact e2
    · unfold fin
      by_cases z : (tk K (nI 59) (tk K (nI 3) (tk K (nI 3) (tk K (nI 3) (tk K (nI 2) (fst1 K (tLo T) 7 t)))))).2 = 0
      · rw [if_pos z]
        obtain ⟨b1, b2, b3, b4⟩ := q (tk_up z)
        have g : ∀ a j, ¬ tkA a j → J2 a j = J a j := f2
        have ff : ∀ a j, ¬ tkA a j → ¬ ldF a j → J2 a j = I a j := fun a j x y => (f2 a j x).trans (f a j y)
        have le : t ≤ (tk K (nI 59) (tk K (nI 3) (tk K (nI 3) (tk K (nI 3) (tk K (nI 2) (fst1 K (tLo T) 7 t)))))).1 := by
          obtain ⟨z5, -, g6, -⟩ := tk_le z
          obtain ⟨z4, -, g5, -⟩ := tk_le z5
          obtain ⟨z3, -, g4, -⟩ := tk_le z4
          obtain ⟨z2, -, g3, -⟩ := tk_le z3
          obtain ⟨z1, -, g2, -⟩ := tk_le z2
          obtain ⟨-, g1⟩ := fst1_le z1
          omega
        refine ⟨c2.rd z, b2.cg (fun j => g _ _ (by unfold tkA; omega)) (fun j => g _ _ (by unfold tkA; omega)) (fun _ _ => ⟨rfl, rfl, rfl⟩), D2.cg (fun j => ff _ _ (by unfold tkA; omega) (by unfold ldF naF; omega)) (fun j => ff _ _ (by unfold tkA; omega) (by unfold ldF naF; omega)) ?_, D3.cg (fun j => ff _ _ (by unfold tkA; omega) (by unfold ldF naF; omega)) (fun j => ff _ _ (by unfold tkA; omega) (by unfold ldF naF; omega)) ?_, ⟨?_, ?_, ?_⟩, D7.cg (ff _ _ (by unfold tkA; omega) (by unfold ldF naF; omega)) (fun j => ff _ _ (by unfold tkA; omega) (by unfold ldF naF; omega)) (fun j => ff _ _ (by unfold tkA; omega) (by unfold ldF naF; omega)) le, b4.cg (g _ _ (by unfold tkA; omega)), b3.cg (g _ _ (by unfold tkA; omega)) (g _ _ (by unfold tkA; omega)) (fun j => g _ _ (by unfold tkA; omega))⟩
        · intro i hi
          have hi' : i < tSi T := hi
          show upL (tSt T) (tLo T) _ _ _ (30 + i) = _ ∧ upL (tSt T) (tLo T) _ _ _ (80 + i) = _
          unfold upL
          exact ⟨by rw [up1_o (by omega), up1_o (by omega), up1_o (by omega)], by rw [up1_o (by omega), up1_o (by omega), up1_o (by omega)]⟩
        · intro i hi
          have hi' : i < tHo T := hi
          show upL (tSt T) (tLo T) _ _ _ (70 + i) = _ ∧ upL (tSt T) (tLo T) _ _ _ (40 + i) = _ ∧ upL (tSt T) (tLo T) _ _ _ (50 + i) = _
          unfold upL
          exact ⟨by rw [up1_o (by omega), up1_o (by omega), up1_o (by omega)], by rw [up1_o (by omega), up1_o (by omega), up1_o (by omega)], by rw [up1_o (by omega), up1_o (by omega), up1_o (by omega)]⟩
        · show J2 20 2 = upL (tSt T) (tLo T) _ _ _ 0
          unfold upL
          rw [up1_o (by omega), up1_o (by omega), up1_o (by omega), ff _ _ (by unfold tkA; omega) (by unfold ldF naF; omega), D4]
        · show J2 20 3 = upL (tSt T) (tLo T) _ _ _ 1
          unfold upL
          rw [up1_o (by omega), up1_o (by omega), up1_o (by omega), ff _ _ (by unfold tkA; omega) (by unfold ldF naF; omega), D5]
        · show J2 20 4 = upL (tSt T) (tLo T) _ _ _ 2
          unfold upL
          rw [up1_o (by omega), up1_o (by omega), up1_o (by omega), ff _ _ (by unfold tkA; omega) (by unfold ldF naF; omega), D6]
      · rw [if_neg z]
        exact c2.ft z
  by_cases a1 : K t = nI 129
  · obtain ⟨J, L', e, f, lo, c, q⟩ := s_silkSt (d + 42) (L := L) G k h32 h D2 q2 D9 D8 (fun z => by omega) rfl rfl rfl rfl rfl
    have fS : Fi stG I J := f.up fun _ _ z => by unfold slF naF at z; unfold stG; omega
    have kJ : TKV J L' K V := (TKV.lg (L' := L') ⟨(fS.row 34 fun j => by unfold stG; omega).trans k.1, k.2⟩ fun j => lo 36 j (by omega))
    obtain ⟨J2, e2, f2, c2⟩ := s_stEnd (d + 44) (L := L') G kJ c
    refine ⟨_, J2, L', Or.inr (Or.inl ⟨a1, _, _, _, _, _, rfl, rfl, rfl, rfl, rfl, rfl⟩), ?_, fS.tr (f2.up fun _ _ => tkS), lo, ?_⟩
    · rw [w0, B_X6_statement_0]
      simp only [gRd G, if_true, k31, a1]
      rw [if_neg (n_ne (by omega) (by omega) (by omega)), B_X6_statement_67]
      simp only [gRd G, if_true, e, bV_eq]
      exact e2
    · unfold fin
      by_cases z : (tk K (nI 59) (tk K (nI 3) (sgS K (tk K (nI 3) (tk K (nI 2) (fst1 K (tSi T) 5 t)))))).2 = 0
      · rw [if_pos z]
        obtain ⟨b1, b2, b3, b4⟩ := q (tk_up z)
        have g : ∀ a j, ¬ tkA a j → J2 a j = J a j := f2
        have ff : ∀ a j, ¬ tkA a j → ¬ slF a j → J2 a j = I a j := fun a j x y => (f2 a j x).trans (f a j y)
        have le : t ≤ (tk K (nI 59) (tk K (nI 3) (sgS K (tk K (nI 3) (tk K (nI 2) (fst1 K (tSi T) 5 t)))))).1 := by
          obtain ⟨z5, -, g6, -⟩ := tk_le z
          obtain ⟨z4, -, g5, -⟩ := tk_le z5
          obtain ⟨z3, g4⟩ := sgS_le z4
          obtain ⟨z2, -, g3, -⟩ := tk_le z3
          obtain ⟨z1, -, g2, -⟩ := tk_le z2
          obtain ⟨-, g1⟩ := fst1_le z1
          omega
        refine ⟨c2.rd z, D1.cg (fun j => ff _ _ (by unfold tkA; omega) (by unfold slF naF; omega)) (fun j => ff _ _ (by unfold tkA; omega) (by unfold slF naF; omega)) ?_, b2.cg (fun j => g _ _ (by unfold tkA; omega)) (fun j => g _ _ (by unfold tkA; omega)) (fun _ _ => ⟨rfl, rfl⟩), D3.cg (fun j => ff _ _ (by unfold tkA; omega) (by unfold slF naF; omega)) (fun j => ff _ _ (by unfold tkA; omega) (by unfold slF naF; omega)) ?_, ⟨?_, ?_, ?_⟩, D7.cg (ff _ _ (by unfold tkA; omega) (by unfold slF naF; omega)) (fun j => ff _ _ (by unfold tkA; omega) (by unfold slF naF; omega)) (fun j => ff _ _ (by unfold tkA; omega) (by unfold slF naF; omega)) le, b4.cg (g _ _ (by unfold tkA; omega)), b3.cg (g _ _ (by unfold tkA; omega)) (g _ _ (by unfold tkA; omega)) (fun j => g _ _ (by unfold tkA; omega))⟩
        · intro i hi
          have hi' : i < tLo T := hi
          show upK (tSt T) (tSi T) _ _ (60 + i) = _ ∧ upK (tSt T) (tSi T) _ _ (10 + i) = _ ∧ upK (tSt T) (tSi T) _ _ (20 + i) = _
          unfold upK
          exact ⟨by rw [up1_o (by omega), up1_o (by omega)], by rw [up1_o (by omega), up1_o (by omega)], by rw [up1_o (by omega), up1_o (by omega)]⟩
        · intro i hi
          have hi' : i < tHo T := hi
          show upK (tSt T) (tSi T) _ _ (70 + i) = _ ∧ upK (tSt T) (tSi T) _ _ (40 + i) = _ ∧ upK (tSt T) (tSi T) _ _ (50 + i) = _
          unfold upK
          exact ⟨by rw [up1_o (by omega), up1_o (by omega)], by rw [up1_o (by omega), up1_o (by omega)], by rw [up1_o (by omega), up1_o (by omega)]⟩
        · show J2 20 2 = upK (tSt T) (tSi T) _ _ 0
          unfold upK
          rw [up1_o (by omega), up1_o (by omega), ff _ _ (by unfold tkA; omega) (by unfold slF naF; omega), D4]
        · show J2 20 3 = upK (tSt T) (tSi T) _ _ 1
          unfold upK
          rw [up1_o (by omega), up1_o (by omega), ff _ _ (by unfold tkA; omega) (by unfold slF naF; omega), D5]
        · show J2 20 4 = upK (tSt T) (tSi T) _ _ 2
          unfold upK
          rw [up1_o (by omega), up1_o (by omega), ff _ _ (by unfold tkA; omega) (by unfold slF naF; omega), D6]
      · rw [if_neg z]
        exact c2.ft z
  by_cases a2 : K t = nI 130
  · obtain ⟨J, L', e, f, lo, c, q⟩ := s_hookSt (d + 42) (L := L) G k h32 h D3 q3 D9 D8 (fun z => by omega) rfl rfl rfl rfl rfl
    have fS : Fi stG I J := f.up fun _ _ z => by unfold hkF naF at z; unfold stG; omega
    have kJ : TKV J L' K V := (TKV.lg (L' := L') ⟨(fS.row 34 fun j => by unfold stG; omega).trans k.1, k.2⟩ fun j => lo 36 j (by omega))
    obtain ⟨J2, e2, f2, c2⟩ := s_stEnd (d + 44) (L := L') G kJ c
    refine ⟨_, J2, L', Or.inr (Or.inr (Or.inl ⟨a2, _, _, _, _, _, rfl, rfl, rfl, rfl, rfl, rfl⟩)), ?_, fS.tr (f2.up fun _ _ => tkS), lo, ?_⟩
    · rw [w0, B_X6_statement_0]
      simp only [gRd G, if_true, k31, a2]
      rw [if_neg (n_ne (by omega) (by omega) (by omega)), if_neg (n_ne (by omega) (by omega) (by omega)), B_X6_statement_74]
      simp only [gRd G, if_true, e, bV_eq]
      exact e2
    · unfold fin
      by_cases z : (tk K (nI 59) (tk K (nI 3) (tk K (nI 3) (tk K (nI 3) (tk K (nI 2) (fst1 K (tHo T) 5 t)))))).2 = 0
      · rw [if_pos z]
        obtain ⟨b1, b2, b3, b4⟩ := q (tk_up z)
        have g : ∀ a j, ¬ tkA a j → J2 a j = J a j := f2
        have ff : ∀ a j, ¬ tkA a j → ¬ hkF a j → J2 a j = I a j := fun a j x y => (f2 a j x).trans (f a j y)
        have le : t ≤ (tk K (nI 59) (tk K (nI 3) (tk K (nI 3) (tk K (nI 3) (tk K (nI 2) (fst1 K (tHo T) 5 t)))))).1 := by
          obtain ⟨z5, -, g6, -⟩ := tk_le z
          obtain ⟨z4, -, g5, -⟩ := tk_le z5
          obtain ⟨z3, -, g4, -⟩ := tk_le z4
          obtain ⟨z2, -, g3, -⟩ := tk_le z3
          obtain ⟨z1, -, g2, -⟩ := tk_le z2
          obtain ⟨-, g1⟩ := fst1_le z1
          omega
        refine ⟨c2.rd z, D1.cg (fun j => ff _ _ (by unfold tkA; omega) (by unfold hkF naF; omega)) (fun j => ff _ _ (by unfold tkA; omega) (by unfold hkF naF; omega)) ?_, D2.cg (fun j => ff _ _ (by unfold tkA; omega) (by unfold hkF naF; omega)) (fun j => ff _ _ (by unfold tkA; omega) (by unfold hkF naF; omega)) ?_, b2.cg (fun j => g _ _ (by unfold tkA; omega)) (fun j => g _ _ (by unfold tkA; omega)) (fun _ _ => ⟨rfl, rfl, rfl⟩), ⟨?_, ?_, ?_⟩, D7.cg (ff _ _ (by unfold tkA; omega) (by unfold hkF naF; omega)) (fun j => ff _ _ (by unfold tkA; omega) (by unfold hkF naF; omega)) (fun j => ff _ _ (by unfold tkA; omega) (by unfold hkF naF; omega)) le, b4.cg (g _ _ (by unfold tkA; omega)), b3.cg (g _ _ (by unfold tkA; omega)) (g _ _ (by unfold tkA; omega)) (fun j => g _ _ (by unfold tkA; omega))⟩
        · intro i hi
          have hi' : i < tLo T := hi
          show upH (tSt T) (tHo T) _ _ _ (60 + i) = _ ∧ upH (tSt T) (tHo T) _ _ _ (10 + i) = _ ∧ upH (tSt T) (tHo T) _ _ _ (20 + i) = _
          unfold upH
          exact ⟨by rw [up1_o (by omega), up1_o (by omega), up1_o (by omega)], by rw [up1_o (by omega), up1_o (by omega), up1_o (by omega)], by rw [up1_o (by omega), up1_o (by omega), up1_o (by omega)]⟩
        · intro i hi
          have hi' : i < tSi T := hi
          show upH (tSt T) (tHo T) _ _ _ (30 + i) = _ ∧ upH (tSt T) (tHo T) _ _ _ (80 + i) = _
          unfold upH
          exact ⟨by rw [up1_o (by omega), up1_o (by omega), up1_o (by omega)], by rw [up1_o (by omega), up1_o (by omega), up1_o (by omega)]⟩
        · show J2 20 2 = upH (tSt T) (tHo T) _ _ _ 0
          unfold upH
          rw [up1_o (by omega), up1_o (by omega), up1_o (by omega), ff _ _ (by unfold tkA; omega) (by unfold hkF naF; omega), D4]
        · show J2 20 3 = upH (tSt T) (tHo T) _ _ _ 1
          unfold upH
          rw [up1_o (by omega), up1_o (by omega), up1_o (by omega), ff _ _ (by unfold tkA; omega) (by unfold hkF naF; omega), D5]
        · show J2 20 4 = upH (tSt T) (tHo T) _ _ _ 2
          unfold upH
          rw [up1_o (by omega), up1_o (by omega), up1_o (by omega), ff _ _ (by unfold tkA; omega) (by unfold hkF naF; omega), D6]
      · rw [if_neg z]
        exact c2.ft z
  -- the numbers alone
  have set : ∀ (j : Nat) (lo hi : Int32), j < 3 → (∃ pc, evk zcod none (d + 47) zc_X6_statement 0 [(0, .ref 31)] [] (S, I, L) = pc ∧ ∀ y J, evM zcod (d + 47) 57 [.ref 31, .int lo, .int hi] (S, I, L) = some (some (.int y), (S, J, L)) → pc = evk zcod none (d + 47) zc_X6_statement 145 [(0, .ref 31)] [] (S, uI J 20 (2 + j) y, L)) → ∃ res J L', SXset K V j lo hi t T res ∧ evM zcod (d + 48) 53 [.ref 31] (S, I, L) = some (none, (S, J, L')) ∧ Fi stG I J ∧ (∀ a j, ¬ a = 38 → L' a j = L a j) ∧ match res with
    | Sum.inl (t', T') => RD J t' ∧ DRF J L' t' T'
    | Sum.inr (t', f) => FT J t' f := by
    intro j lo hi hj ⟨pc, e0, hpc⟩
    obtain ⟨y, J, e, f, c, q⟩ := s_setting (d + 42) (L := L) G k h32 h lo hi D9
    let J1 := uI J 20 (2 + j) y
    have f1 : Fi stG J J1 := Fi.u Fi.rf (Or.inr (Or.inl ⟨rfl, by omega, by omega⟩))
    have c1 : CSt J1 (tk K (nI 3) (tk K (K t) (t, 0))) := c.fi (fun j => uI_off (by omega)) (fun j => uI_off (by omega)) (fun j => uI_off (by omega)) (uI_off (by omega))
    have fS : Fi stG I J1 := (f.up fun _ _ z => by unfold nuF at z; unfold stG; omega).tr f1
    have kJ : TKV J1 L K V := ⟨(fS.row 34 fun j => by unfold stG; omega).trans k.1, k.2⟩
    obtain ⟨J2, e2, f2, c2⟩ := s_stEnd (d + 44) (L := L) G kJ c1
    refine ⟨_, J2, L, ⟨_, _, rfl, rfl, rfl⟩, w0.trans (e0.trans ((hpc y J e).trans e2)), fS.tr (f2.up fun _ _ => tkS), fun _ _ _ => rfl, ?_⟩
    unfold fin
    by_cases z : (tk K (nI 59) (tk K (nI 3) (tk K (K t) (t, 0)))).2 = 0
    · rw [if_pos z]
      obtain ⟨b1, b3⟩ := q (tk_up z)
      have le : t ≤ (tk K (nI 59) (tk K (nI 3) (tk K (K t) (t, 0)))).1 := by
        obtain ⟨z5, -, g6, -⟩ := tk_le z
        obtain ⟨z4, -, g5, -⟩ := tk_le z5
        obtain ⟨-, -, g4, -⟩ := tk_le z4
        have g4' : (tk K (K t) (t, 0)).1 = t + 1 := g4
        omega
      have g : ∀ a j, ¬ tkA a j → ¬ a = 20 → J2 a j = J a j := fun a j x y => (f2 a j x).trans (uI_off y)
      have ff : ∀ a j, ¬ tkA a j → ¬ a = 20 → ¬ nuF a j → J2 a j = I a j := fun a j x y z => (g a j x y).trans (f a j z)
      have r20 : ∀ i, i < 3 → I 20 (2 + i) = tSt T i → J2 20 (2 + i) = up1 (tSt T) j (V (tk K (K t) (t, 0)).1) i := by
        intro i hi e
        rw [f2 _ _ (by unfold tkA; omega)]
        by_cases c : i = j
        · rw [c, up1_s, ← b1]
          exact uI_same _ _ _ _
        · rw [up1_o c, ← e]
          exact (uI_ix (by omega)).trans (f _ _ (by unfold nuF; omega))
      refine ⟨c2.rd z, D1.cg (fun j => ff _ _ (by unfold tkA; omega) (by omega) (by unfold nuF; omega)) (fun j => ff _ _ (by unfold tkA; omega) (by omega) (by unfold nuF; omega)) ?_, D2.cg (fun j => ff _ _ (by unfold tkA; omega) (by omega) (by unfold nuF; omega)) (fun j => ff _ _ (by unfold tkA; omega) (by omega) (by unfold nuF; omega)) ?_, D3.cg (fun j => ff _ _ (by unfold tkA; omega) (by omega) (by unfold nuF; omega)) (fun j => ff _ _ (by unfold tkA; omega) (by omega) (by unfold nuF; omega)) ?_, ⟨r20 0 (by omega) D4, r20 1 (by omega) D5, r20 2 (by omega) D6⟩, D7.cg (ff _ _ (by unfold tkA; omega) (by omega) (by unfold nuF; omega)) (fun j => ff _ _ (by unfold tkA; omega) (by omega) (by unfold nuF; omega)) (fun j => ff _ _ (by unfold tkA; omega) (by omega) (by unfold nuF; omega)) le, D8.cg (ff _ _ (by unfold tkA; omega) (by omega) (by unfold nuF; omega)), b3.cg (g _ _ (by unfold tkA; omega) (by omega)) (g _ _ (by unfold tkA; omega) (by omega)) (fun j => g _ _ (by unfold tkA; omega) (by omega))⟩
      · intro i hi
        show up1 (tSt T) j _ (60 + i) = _ ∧ up1 (tSt T) j _ (10 + i) = _ ∧ up1 (tSt T) j _ (20 + i) = _
        exact ⟨up1_o (by omega), up1_o (by omega), up1_o (by omega)⟩
      · intro i hi
        show up1 (tSt T) j _ (30 + i) = _ ∧ up1 (tSt T) j _ (80 + i) = _
        exact ⟨up1_o (by omega), up1_o (by omega)⟩
      · intro i hi
        show up1 (tSt T) j _ (70 + i) = _ ∧ up1 (tSt T) j _ (40 + i) = _ ∧ up1 (tSt T) j _ (50 + i) = _
        exact ⟨up1_o (by omega), up1_o (by omega), up1_o (by omega)⟩
    · rw [if_neg z]
      exact c2.ft z
  by_cases a5 : K t = nI 135
  · obtain ⟨res, J, L', x, r⟩ := set 0 (nI 1) (nI 99) (by omega) ⟨_, rfl, fun y J e => by
      rw [B_X6_statement_0]
      simp only [gRd G, if_true, k31, a5]
      rw [if_neg (n_ne (by omega) (by omega) (by omega)), if_neg (n_ne (by omega) (by omega) (by omega)), if_neg (n_ne (by omega) (by omega) (by omega)), if_neg (n_ne (by omega) (by omega) (by omega)), if_neg (n_ne (by omega) (by omega) (by omega)), if_neg (n_ne (by omega) (by omega) (by omega)), if_neg (n_ne (by omega) (by omega) (by omega)), B_X6_statement_81]
      simp only [gRd G, gTop G, if_true, e, bI_eq]⟩
    exact ⟨res, J, L', Or.inr (Or.inr (Or.inr (Or.inr (Or.inl ⟨a5, x⟩)))), r⟩
  by_cases a6 : K t = nI 136
  · obtain ⟨res, J, L', x, r⟩ := set 1 (nI 0) (nI 100) (by omega) ⟨_, rfl, fun y J e => by
      rw [B_X6_statement_0]
      simp only [gRd G, if_true, k31, a6]
      rw [if_neg (n_ne (by omega) (by omega) (by omega)), if_neg (n_ne (by omega) (by omega) (by omega)), if_neg (n_ne (by omega) (by omega) (by omega)), if_neg (n_ne (by omega) (by omega) (by omega)), if_neg (n_ne (by omega) (by omega) (by omega)), if_neg (n_ne (by omega) (by omega) (by omega)), if_neg (n_ne (by omega) (by omega) (by omega)), if_neg (n_ne (by omega) (by omega) (by omega)), B_X6_statement_98]
      simp only [gRd G, gTop G, if_true, e, bI_eq]⟩
    exact ⟨res, J, L', Or.inr (Or.inr (Or.inr (Or.inr (Or.inr (Or.inl ⟨a6, x⟩))))), r⟩
  by_cases a7 : K t = nI 137
  · obtain ⟨res, J, L', x, r⟩ := set 2 (nI 0) (nI 9999) (by omega) ⟨_, rfl, fun y J e => by
      rw [B_X6_statement_0]
      simp only [gRd G, if_true, k31, a7]
      rw [if_neg (n_ne (by omega) (by omega) (by omega)), if_neg (n_ne (by omega) (by omega) (by omega)), if_neg (n_ne (by omega) (by omega) (by omega)), if_neg (n_ne (by omega) (by omega) (by omega)), if_neg (n_ne (by omega) (by omega) (by omega)), if_neg (n_ne (by omega) (by omega) (by omega)), if_neg (n_ne (by omega) (by omega) (by omega)), if_neg (n_ne (by omega) (by omega) (by omega)), if_neg (n_ne (by omega) (by omega) (by omega)), B_X6_statement_115]
      simp only [gRd G, gTop G, if_true, e, bI_eq]⟩
    exact ⟨res, J, L', Or.inr (Or.inr (Or.inr (Or.inr (Or.inr (Or.inr (Or.inl ⟨a7, x⟩)))))), r⟩
  have w133 : evk zcod none (d + 47) zc_X6_statement 0 [(0, .ref 31)] [] (S, I, L) = evk zcod none (d + 47) zc_X6_statement 133 [(0, .ref 31)] [] (S, I, L) := by
    rw [B_X6_statement_0]
    simp only [gRd G, if_true, k31, a0, a1, a2, a5, a6, a7, if_false, ite_self]
  by_cases a3 : ∃ kl, kl < 4 ∧ K t = nI (131 + kl)
  · obtain ⟨kl, hk, a3⟩ := a3
    obtain ⟨s2, J, es, e, f, r⟩ := s_lawSt (d + 4) (L := L) G k hk h a3 D7
    have fS : Fi stG I J := f.up fun _ _ => lsF_st
    have kJ : TKV J L K V := ⟨(fS.row 34 fun j => by unfold stG; omega).trans k.1, k.2⟩
    have w145 : evM zcod (d + 48) 53 [.ref 31] (S, I, L) = evk zcod none (d + 47) zc_X6_statement 145 [(0, .ref 31)] [] (S, J, L) := by
      rw [w0, w133, B_X6_statement_133]
      simp only [gRd G, if_true, k31, a3, law_sub kl hk, e, bV_eq]
    rcases r with ⟨z2, ft⟩ | ⟨z2, r, x, ⟨t', f', er, ft⟩ | ⟨t', b, e', er, rd, ls⟩⟩
    · obtain ⟨J2, e2, f2, c2⟩ := s_stEnd (d + 44) (L := L) G kJ (s := s2) (Or.inr ft)
      refine ⟨Sum.inr s2, J2, L, Or.inr (Or.inr (Or.inr (Or.inl ⟨kl, hk, a3, s2, es, Or.inl ⟨z2, rfl⟩⟩))), w145.trans e2, fS.tr (f2.up fun _ _ => tkS), fun _ _ _ => rfl, ?_⟩
      have tke : tk K (nI 59) s2 = s2 := by
        unfold tk
        rw [if_neg z2]
      rw [tke] at c2
      exact c2.ft z2
    · have n0 : ¬ f' = 0 := by rcases ft.2.1 with z | z <;> omega
      obtain ⟨J2, e2, f2, c2⟩ := s_stEnd (d + 44) (L := L) G kJ (s := (t', f')) (Or.inr ft)
      refine ⟨Sum.inr (t', f'), J2, L, Or.inr (Or.inr (Or.inr (Or.inl ⟨kl, hk, a3, s2, es, Or.inr ⟨z2, r, x, Or.inl ⟨(t', f'), er, rfl⟩⟩⟩))), w145.trans e2, fS.tr (f2.up fun _ _ => tkS), fun _ _ _ => rfl, ?_⟩
      have tke : tk K (nI 59) (t', f') = (t', f') := by
        unfold tk
        rw [if_neg n0]
      rw [tke] at c2
      exact c2.ft n0
    · obtain ⟨J2, e2, f2, c2⟩ := s_stEnd (d + 44) (L := L) G kJ (s := (t', 0)) (Or.inl ⟨rfl, rd⟩)
      refine ⟨_, J2, L, Or.inr (Or.inr (Or.inr (Or.inl ⟨kl, hk, a3, s2, es, Or.inr ⟨z2, r, x, Or.inr ⟨t', b, e', er, rfl⟩⟩⟩))), w145.trans e2, fS.tr (f2.up fun _ _ => tkS), fun _ _ _ => rfl, ?_⟩
      unfold fin
      by_cases z : (tk K (nI 59) (t', 0)).2 = 0
      · rw [if_pos z]
        have lt : t' < (tk K (nI 59) (t', 0)).1 := by
          have g := (tk_le z).2.2.1
          have g' : (tk K (nI 59) (t', 0)).1 = t' + 1 := g
          omega
        have ff : ∀ a j, ¬ tkA a j → ¬ lsF a j → J2 a j = I a j := fun a j x y => (f2 a j x).trans (f a j y)
        exact ⟨c2.rd z, D1.cg (fun j => ff _ _ (by unfold tkA; omega) (by unfold lsF rdA; omega)) (fun j => ff _ _ (by unfold tkA; omega) (by unfold lsF rdA; omega)) (fun _ _ => ⟨rfl, rfl, rfl⟩), D2.cg (fun j => ff _ _ (by unfold tkA; omega) (by unfold lsF rdA; omega)) (fun j => ff _ _ (by unfold tkA; omega) (by unfold lsF rdA; omega)) (fun _ _ => ⟨rfl, rfl⟩), D3.cg (fun j => ff _ _ (by unfold tkA; omega) (by unfold lsF rdA; omega)) (fun j => ff _ _ (by unfold tkA; omega) (by unfold lsF rdA; omega)) (fun _ _ => ⟨rfl, rfl, rfl⟩), ⟨(ff _ _ (by unfold tkA; omega) (by unfold lsF rdA; omega)).trans D4, (ff _ _ (by unfold tkA; omega) (by unfold lsF rdA; omega)).trans D5, (ff _ _ (by unfold tkA; omega) (by unfold lsF rdA; omega)).trans D6⟩, (ls _ lt).cg (f2 _ _ (by unfold tkA; omega)) (fun j => f2 _ _ (by unfold tkA; omega)) (fun j => f2 _ _ (by unfold tkA; omega)) (Nat.le_refl _), D8.cg (ff _ _ (by unfold tkA; omega) (by unfold lsF rdA; omega)), D9.cg (ff _ _ (by unfold tkA; omega) (by unfold lsF rdA; omega)) (ff _ _ (by unfold tkA; omega) (by unfold lsF rdA; omega)) (fun j => ff _ _ (by unfold tkA; omega) (by unfold lsF rdA; omega))⟩
      · rw [if_neg z]
        exact c2.ft z
  · have nb : ¬ (nI 0 ≤ K t - nI 131 ∧ K t - nI 131 ≤ nI 3) := by
      rintro ⟨b1, b2⟩
      rw [i_le, t_nI (by omega)] at b1 b2
      obtain ⟨kl, hk, e⟩ := i_of2 (n := 4) b1 (by omega)
      apply a3
      refine ⟨kl, hk, ?_⟩
      have z : K t - nI 131 + nI 131 = nI kl + nI 131 := by rw [e]
      rw [Int32.sub_add_cancel, nI_add, Nat.add_comm] at z
      exact z
    obtain ⟨J, e, f, ft⟩ := s_fail (d + 44) (L := L) G h (Or.inl rfl)
    have fS : Fi stG I J := f.up fun _ _ z => by unfold stG; omega
    have kJ : TKV J L K V := ⟨(fS.row 34 fun j => by unfold stG; omega).trans k.1, k.2⟩
    obtain ⟨J2, e2, f2, c2⟩ := s_stEnd (d + 44) (L := L) G kJ (s := (t, 1)) (Or.inr ft)
    refine ⟨Sum.inr (t, 1), J2, L, Or.inr (Or.inr (Or.inr (Or.inr (Or.inr (Or.inr (Or.inr ⟨fun n n1 n2 z => ?_, rfl⟩)))))), ?_, fS.tr (f2.up fun _ _ => tkS), fun _ _ _ => rfl, ?_⟩
    · by_cases c : 131 ≤ n ∧ n ≤ 134
      · exact a3 ⟨n - 131, by omega, by rw [show 131 + (n - 131) = n by omega]; exact z⟩
      · rcases (by omega : n = 128 ∨ n = 129 ∨ n = 130 ∨ n = 135 ∨ n = 136 ∨ n = 137) with y | y | y | y | y | y
        · exact a0 (by rw [z, y])
        · exact a1 (by rw [z, y])
        · exact a2 (by rw [z, y])
        · exact a5 (by rw [z, y])
        · exact a6 (by rw [z, y])
        · exact a7 (by rw [z, y])
    · have el : evM zcod (d + 47) 58 [.ref 31, .int (K t - nI 131)] (S, I, L) = some (none, (S, J, L)) := by
        rw [E_X6_lawStatement, B_X6_lawStatement_0]
        simp only [s_isWithin, bI_eq, if_true]
        rw [if_neg nb, if_neg (fun q => q rfl)]
        simp only [gRd G, if_true, e, bV_eq]
      rw [w0, w133, B_X6_statement_133]
      simp only [gRd G, if_true, k31, el, bV_eq]
      exact e2
    · have tke : tk K (nI 59) (t, 1) = (t, 1) := rfl
      rw [tke] at c2
      exact c2.ft (by show ¬ 1 = 0; omega)
