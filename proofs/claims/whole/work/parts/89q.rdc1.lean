/-! a text, class side: the draft cleared; all statements; faultOf -/
def LWK (S : mS) (r c s : Nat) : Prop := (kK S r = 3 ∧ kR S r 0 = c ∧ kR S r 1 = s) ∧ (kK S c = 20 ∧ kN S c = 432 ∧ kK S s = 20 ∧ kN S s = 4) ∧ ¬ r = c ∧ ¬ r = s ∧ ¬ c = s
/-- the cells of the laws that are not told -/
def dcl (u : Nat) : Int32 := match u with
  | 0 => -12 | 1 => -13 | 2 => -2 | 3 => -6 | 4 => nI 0 | 5 => -6 | 6 => -13 | 7 => -6 | 8 => -16 | _ => -6
def dst (k : Nat) : Nat := match k with
  | 0 => 0 | 1 => 4 | 2 => 6 | _ => 8
def CLR (I : mI) (r c s u k : Nat) : Prop := I r 2 = nI u ∧ (∀ j, j < u → I c j = dcl j) ∧ ∀ j, j < k → I s j = nI (dst j)
def clF (r c s a j : Nat) : Prop := a = r ∧ j = 2 ∨ a = c ∨ a = s
theorem g_lAdd (d : Nat) {S : mS} {I : mI} {L : mJ} {r c s u k : Nat} (h : LWK S r c s) (hI : CLR I r c s u k) (hu : u < 10) {x : Int32} (hx : x = dcl u) : ∃ J, evM zcod (d + 1) 14 [.ref r, .int x] (S, I, L) = some (none, (S, J, L)) ∧ Fi (clF r c s) I J ∧ CLR J r c s (u + 1) k := by
  obtain ⟨⟨h1, h2, h3⟩, ⟨h4, h5, h6, h7⟩, h8, h9, h10⟩ := h
  obtain ⟨a1, a2, a3⟩ := hI
  subst hx
  have e2 : uI I c u (dcl u) r 2 = nI u := (uI_off h8).trans a1
  refine ⟨uI (uI I c u (dcl u)) r 2 (nI (u + 1)), ?_, Fi.u (Fi.u Fi.rf (Or.inr (Or.inl rfl))) (Or.inl ⟨rfl, rfl⟩), uI_same _ _ _ _, fun j hj => ?_, fun j hj => ?_⟩
  · rw [E_X3_add]
    simp only [B_X3_add_0, B_X3_add_32, h1, h2, h4, h5, if_true, true_and, a1]
    rw [if_neg (nI_ge (by omega) (by omega)), if_pos (ixP (by omega) (by omega))]
    simp only [ixI (show u < 2147483648 by omega), e2, nI_add]
  · rw [uI_off (fun z => h8 z.symm)]
    by_cases w : j = u
    · rw [w, uI_same]
    · rw [uI_ix w]
      exact a2 j (by omega)
  · rw [uI_off (fun z => h9 z.symm), uI_off (fun z => h10 z.symm)]
    exact a3 j hj
theorem g_lBegin (d : Nat) {S : mS} {I : mI} {L : mJ} {r c s u k : Nat} (h : LWK S r c s) (hI : CLR I r c s u k) (hk : k < 4) (hu : u = dst k) : ∃ J, evM zcod (d + 1) 12 [.ref r, .int (nI k)] (S, I, L) = some (none, (S, J, L)) ∧ Fi (clF r c s) I J ∧ CLR J r c s u (k + 1) := by
  obtain ⟨⟨h1, h2, h3⟩, ⟨h4, h5, h6, h7⟩, h8, h9, h10⟩ := h
  obtain ⟨a1, a2, a3⟩ := hI
  refine ⟨uI I s k (I r 2), ?_, Fi.u Fi.rf (Or.inr (Or.inr rfl)), (uI_off h9).trans a1, fun j hj => (uI_off h10).trans (a2 j hj), fun j hj => ?_⟩
  · rw [E_X3_begin]
    simp only [B_X3_begin_0, B_X3_begin_23, h1, h3, h6, h7, if_true, true_and]
    rw [if_neg (n_pos (n := k) (by omega)), if_neg (nI_ge hk (by omega)), if_pos (ixP (by omega) (by omega)), ixI (by omega)]
  · by_cases w : j = k
    · rw [w, uI_same, a1, hu]
    · rw [uI_ix w]
      exact a3 j (by omega)
theorem g_lawsClear (d : Nat) {S : mS} {I : mI} {L : mJ} {r c s : Nat} (h : LWK S r c s) : ∃ J, evM zcod (d + 2) 10 [.ref r] (S, I, L) = some (none, (S, J, L)) ∧ Fi (clF r c s) I J ∧ CLR J r c s 10 4 := by
  have i0 : CLR (uI I r 2 (nI 0)) r c s 0 0 := ⟨uI_same _ _ _ _, fun j hj => by omega, fun j hj => by omega⟩
  have f0 : Fi (clF r c s) I (uI I r 2 (nI 0)) := Fi.u Fi.rf (Or.inl ⟨rfl, rfl⟩)
  obtain ⟨J1, e1, f1, c1⟩ := g_lBegin d (L := L) h i0 (by omega) rfl
  obtain ⟨J2, e2, f2, c2⟩ := g_lAdd d (L := L) h c1 (by omega) (x := -12) rfl
  obtain ⟨J3, e3, f3, c3⟩ := g_lAdd d (L := L) h c2 (by omega) (x := -13) rfl
  obtain ⟨J4, e4, f4, c4⟩ := g_lAdd d (L := L) h c3 (by omega) (x := -2) rfl
  obtain ⟨J5, e5, f5, c5⟩ := g_lAdd d (L := L) h c4 (by omega) (x := -6) rfl
  obtain ⟨J6, e6, f6, c6⟩ := g_lBegin d (L := L) h c5 (by omega) rfl
  obtain ⟨J7, e7, f7, c7⟩ := g_lAdd d (L := L) h c6 (by omega) (x := nI 0) rfl
  obtain ⟨J8, e8, f8, c8⟩ := g_lAdd d (L := L) h c7 (by omega) (x := -6) rfl
  obtain ⟨J9, e9, f9, c9⟩ := g_lBegin d (L := L) h c8 (by omega) rfl
  obtain ⟨J10, e10, f10, c10⟩ := g_lAdd d (L := L) h c9 (by omega) (x := -13) rfl
  obtain ⟨J11, e11, f11, c11⟩ := g_lAdd d (L := L) h c10 (by omega) (x := -6) rfl
  obtain ⟨J12, e12, f12, c12⟩ := g_lBegin d (L := L) h c11 (by omega) rfl
  obtain ⟨J13, e13, f13, c13⟩ := g_lAdd d (L := L) h c12 (by omega) (x := -16) rfl
  obtain ⟨J14, e14, f14, c14⟩ := g_lAdd d (L := L) h c13 (by omega) (x := -6) rfl
  refine ⟨J14, ?_, ((((((((((((((f0.tr f1).tr f2).tr f3).tr f4).tr f5).tr f6).tr f7).tr f8).tr f9).tr f10).tr f11).tr f12).tr f13).tr f14), c14⟩
  have k := h.1.1
  rw [E_X3_clear, B_X3_clear_0]
  simp only [k, if_true, e1, bV_eq, e2, e3]
  rw [B_X3_clear_22]
  simp only [k, if_true, e4, bV_eq, e5, e6, e7]
  rw [B_X3_clear_44]
  simp only [k, if_true, e8, bV_eq, e9, e10, e11]
  rw [B_X3_clear_67]
  simp only [k, if_true, e12, bV_eq, e13, e14]
theorem dcl_C : ∀ u, u < 10 → u ≠ 3 → u ≠ 5 → u ≠ 7 → u ≠ 9 → isC (dcl u) := by
  have : ∀ u, u < 10 → (u = 3 ∨ u = 5 ∨ u = 7 ∨ u = 9) ∨ nI 0 ≤ dcl u ∨ (dcl u = -10 - nI 2 ∨ dcl u = -10 - nI 3 ∨ dcl u = -10 - nI 6) ∨ dcl u = -2 := by decide +kernel
  intro u h1 h2 h3 h4 h5
  rcases (this u h1).resolve_left (by omega) with z | (z | z | z) | z
  · exact Or.inl z
  · exact Or.inr (Or.inl ⟨2, by omega, z⟩)
  · exact Or.inr (Or.inl ⟨3, by omega, z⟩)
  · exact Or.inr (Or.inl ⟨6, by omega, z⟩)
  · exact Or.inr (Or.inr (Or.inr (Or.inl z)))
theorem dfW_ex : ∀ k, k < 4 → (dfW k).1 = [] ∧ EX 15 (dfW k).2 := by
  have v : ∀ {k : Nat} {c : Int32}, k < 9 → c = -10 - nI k → EX 14 [c] := fun hk e => .a1 (Or.inr ⟨_, hk, e⟩) (by omega)
  intro k hk
  match k, hk with
  | 0, _ => exact ⟨rfl, EX.o1 (a := [-12]) (b := [-13]) (c := -2) (v (k := 2) (by omega) (by decide +kernel)) (v (k := 3) (by omega) (by decide +kernel)) (Or.inr (Or.inl rfl)) (by omega) (by omega)⟩
  | 1, _ => exact ⟨rfl, .a1 (Or.inl (by decide +kernel)) (by omega)⟩
  | 2, _ => exact ⟨rfl, (v (k := 3) (by omega) (by decide +kernel)).up (by omega)⟩
  | 3, _ => exact ⟨rfl, (v (k := 6) (by omega) (by decide +kernel)).up (by omega)⟩
theorem CLR.lw {I : mI} {r c s : Nat} (h : CLR I r c s 10 4) : I r 2 = nI 10 ∧ ∀ k, k < 4 → ∃ p, I s k = nI p ∧ LWf (I c) 10 p (dfW k).1 (dfW k).2 := by
  obtain ⟨h1, h2, h3⟩ := h
  refine ⟨h1, fun k hk => ⟨dst k, h3 k hk, ?_⟩⟩
  have x := dfW_ex k hk
  have C := fun u a b c d e => dcl_C u a b c d e
  match k, hk, x with
  | 0, _, x => exact ⟨⟨h2 0 (by omega), C 0 (by omega) (by omega) (by omega) (by omega) (by omega), h2 1 (by omega), C 1 (by omega) (by omega) (by omega) (by omega) (by omega), h2 2 (by omega), C 2 (by omega) (by omega) (by omega) (by omega) (by omega), trivial⟩, x.2, h2 3 (by omega), by show 0 + 3 < 10; omega⟩
  | 1, _, x => exact ⟨⟨h2 4 (by omega), C 4 (by omega) (by omega) (by omega) (by omega) (by omega), trivial⟩, x.2, h2 5 (by omega), by show 4 + 1 < 10; omega⟩
  | 2, _, x => exact ⟨⟨h2 6 (by omega), C 6 (by omega) (by omega) (by omega) (by omega) (by omega), trivial⟩, x.2, h2 7 (by omega), by show 6 + 1 < 10; omega⟩
  | 3, _, x => exact ⟨⟨h2 8 (by omega), C 8 (by omega) (by omega) (by omega) (by omega) (by omega), trivial⟩, x.2, h2 9 (by omega), by show 8 + 1 < 10; omega⟩
/-- a State's shape -/
def STK3 (S : mS) (a : Nat) : Prop := kK S a = 8 ∧ kR S a 0 = a + 1 ∧ kR S a 1 = a + 3 ∧ kR S a 2 = a + 5 ∧ kK S (a + 1) = 9 ∧ kK S (a + 3) = 9 ∧ kK S (a + 5) = 9
def scl (I : mI) (a : Nat) : mI := uI (uI (uI (uI (uI (uI I (a + 1) 3 (nI 0)) (a + 3) 3 (nI 0)) (a + 5) 3 (nI 0)) a 3 (nI 0)) a 4 (nI 0)) a 5 (nI 0)
theorem g_stClear (d : Nat) {S : mS} {I : mI} {L : mJ} {a : Nat} (h : STK3 S a) : evM zcod (d + 2) 20 [.ref a] (S, I, L) = some (none, (S, scl I a, L)) := by
  obtain ⟨h1, h2, h3, h4, h5, h6, h7⟩ := h
  rw [E_X8_clear, B_X8_clear_0]
  simp only [h1, h2, h3, h4, h5, h6, h7, if_true, s_clear d h5, s_clear d h6, s_clear d h7, bV_eq]
  rw [B_X8_clear_26]
  simp only [h1, if_true]
  rfl
def pcF (b a r c s x j : Nat) : Prop := x = b ∧ 2 ≤ j ∧ j ≤ 4 ∨ (x = a + 1 ∨ x = a + 3 ∨ x = a + 5) ∧ j = 3 ∨ x = a ∧ 3 ≤ j ∧ j ≤ 5 ∨ clF r c s x j
/-- a Plan cleared: State a, Laws r -/
theorem g_planClear (d : Nat) {S : mS} {I : mI} {L : mJ} {b a r c s : Nat} (k1 : kK S b = 5) (k2 : kR S b 0 = a) (k3 : kR S b 1 = r) (hs : STK3 S a) (hl : LWK S r c s) (q1 : ¬ a = r ∧ ¬ a + 1 = r ∧ ¬ a + 3 = r ∧ ¬ a + 5 = r) (q2 : ¬ a = c ∧ ¬ a + 1 = c ∧ ¬ a + 3 = c ∧ ¬ a + 5 = c) (q3 : ¬ a = s ∧ ¬ a + 1 = s ∧ ¬ a + 3 = s ∧ ¬ a + 5 = s) (q4 : ¬ b = a ∧ ¬ b = a + 1 ∧ ¬ b = a + 3 ∧ ¬ b = a + 5 ∧ ¬ b = r ∧ ¬ b = c ∧ ¬ b = s) : ∃ J, evM zcod (d + 3) 33 [.ref b] (S, I, L) = some (none, (S, J, L)) ∧ Fi (pcF b a r c s) I J ∧ CLR J r c s 10 4 ∧ (J b 2 = nI 10 ∧ J b 3 = nI 0 ∧ J b 4 = nI 0) ∧ (J (a + 1) 3 = nI 0 ∧ J (a + 3) 3 = nI 0 ∧ J (a + 5) 3 = nI 0) ∧ J a 3 = nI 0 ∧ J a 4 = nI 0 ∧ J a 5 = nI 0 := by
  have e1 := g_stClear (d + 0) (I := I) (L := L) hs
  obtain ⟨J, e2, f2, c2⟩ := g_lawsClear (d + 0) (I := scl I a) (L := L) hl
  have f1 : Fi (pcF b a r c s) I (scl I a) := Fi.u (Fi.u (Fi.u (Fi.u (Fi.u (Fi.u Fi.rf (Or.inr (Or.inl ⟨Or.inl rfl, rfl⟩))) (Or.inr (Or.inl ⟨Or.inr (Or.inl rfl), rfl⟩))) (Or.inr (Or.inl ⟨Or.inr (Or.inr rfl), rfl⟩))) (Or.inr (Or.inr (Or.inl ⟨rfl, by omega, by omega⟩)))) (Or.inr (Or.inr (Or.inl ⟨rfl, by omega, by omega⟩)))) (Or.inr (Or.inr (Or.inl ⟨rfl, by omega, by omega⟩)))
  let J3 := uI (uI (uI J b 2 (nI 10)) b 3 (nI 0)) b 4 (nI 0)
  have f3 : Fi (pcF b a r c s) J J3 := Fi.u (Fi.u (Fi.u Fi.rf (Or.inl ⟨rfl, by omega, by omega⟩)) (Or.inl ⟨rfl, by omega, by omega⟩)) (Or.inl ⟨rfl, by omega, by omega⟩)
  have o : ∀ x j, ¬ x = b → J3 x j = J x j := fun x j q => (uI_off q).trans ((uI_off q).trans (uI_off q))
  have v : ∀ x j, (x = a ∨ x = a + 1 ∨ x = a + 3 ∨ x = a + 5) → J3 x j = scl I a x j := fun x j q => (o x j (by omega)).trans (f2 x j (by unfold clF; omega))
  refine ⟨J3, ?_, (f1.tr (f2.up fun _ _ z => Or.inr (Or.inr (Or.inr z)))).tr f3, ⟨(o _ _ (by omega)).trans c2.1, fun j hj => (o _ _ (by omega)).trans (c2.2.1 j hj), fun j hj => (o _ _ (by omega)).trans (c2.2.2 j hj)⟩, ⟨?_, ?_, uI_same _ _ _ _⟩, ⟨?_, ?_, ?_⟩, ?_, ?_, ?_⟩
  · rw [E_X5_clear, B_X5_clear_0]
    simp only [k1, k2, k3, hs.1, hl.1.1, if_true, e1, bV_eq, e2]
    rw [B_X5_clear_25]
    simp only [k1, if_true]
    rfl
  · exact (uI_ix (by omega)).trans ((uI_ix (by omega)).trans (uI_same _ _ _ _))
  · exact (uI_ix (by omega)).trans (uI_same _ _ _ _)
  · rw [v _ _ (by omega)]
    unfold scl
    rw [uI_off (by omega), uI_off (by omega), uI_off (by omega), uI_off (by omega), uI_off (by omega), uI_same]
  · rw [v _ _ (by omega)]
    unfold scl
    rw [uI_off (by omega), uI_off (by omega), uI_off (by omega), uI_off (by omega), uI_same]
  · rw [v _ _ (by omega)]
    unfold scl
    rw [uI_off (by omega), uI_off (by omega), uI_off (by omega), uI_same]
  · rw [v _ _ (by omega)]
    unfold scl
    rw [uI_ix (by omega), uI_ix (by omega), uI_same]
  · rw [v _ _ (by omega)]
    unfold scl
    rw [uI_ix (by omega), uI_same]
  · rw [v _ _ (by omega)]
    unfold scl
    rw [uI_same]
theorem gDraft {S : mS} (G : Gd S) : STK3 S 21 ∧ LWK S 28 29 30 ∧ STK3 S 10 ∧ LWK S 17 18 19 := by
  have g := gLaw G
  have a := g21 G
  have b := gSt G (a := 10) (by decide +kernel)
  refine ⟨⟨a.1, a.2.1, a.2.2.1, a.2.2.2.1, a.2.2.2.2.1, a.2.2.2.2.2.2.2.2.1, a.2.2.2.2.2.2.2.2.2.2.2.2.1⟩, ⟨⟨g.2.2.2.2.2.2.2.1, g.2.2.2.2.2.2.2.2.1, g.2.2.2.2.2.2.2.2.2.1⟩, ⟨g.2.2.2.2.2.2.2.2.2.2.1, g.2.2.2.2.2.2.2.2.2.2.2.1, g.2.2.2.2.2.2.2.2.2.2.2.2.1, g.2.2.2.2.2.2.2.2.2.2.2.2.2⟩, by omega, by omega, by omega⟩, ⟨b.1, b.2.1, b.2.2.1, b.2.2.2.1, b.2.2.2.2.1, b.2.2.2.2.2.2.2.2.1, b.2.2.2.2.2.2.2.2.2.2.2.2.1⟩, ⟨⟨g.1, g.2.1, g.2.2.1⟩, ⟨g.2.2.2.1, g.2.2.2.2.1, g.2.2.2.2.2.1, g.2.2.2.2.2.2.1⟩, by omega, by omega, by omega⟩⟩
/-- the empty text -/
def tx0 : mTx := ((0, 0, 0), (fun k => if k = 0 then nI 10 else nI 0), dfW, [], (0, 0))
theorem tx0_ok (K : Nat → Int32) : TOK K 0 tx0 := ⟨Nat.zero_le _, Nat.zero_le _, Nat.zero_le _, rfl, fun i hi => absurd hi List.not_mem_nil, Or.inl rfl, fun _ => ⟨fun i hi => absurd hi (Nat.not_lt_zero _), fun i hi => absurd hi (Nat.not_lt_zero _), fun i hi => absurd hi (Nat.not_lt_zero _)⟩⟩
/-- all statements -/
def EnR (I : mI) (L : mJ) (K : Nat → Int32) : TR → Prop
  | Sum.inl (t, T) => RD I t ∧ DRF I L t T ∧ TOK K t T
  | Sum.inr (t, f) => FT I t f
theorem s_text {S : mS} {K V : Nat → Int32} {N : Nat → Int64} (G : Gd S) : ∀ (n d : Nat) (I : mI) (L : mJ) (t i : Nat) (T : mTx), t + n = 400 → i ≤ t → TKV I L K V → L 36 = N → I 32 4 = nI 401 → RD I t → DRF I L t T → TOK K t T → ∃ res J L', TX K V N (n + 1) t T res ∧ evk zcod none (d + 48) zc_X6_faultOf 60 [(0, .ref 31), (3, .int (nI i))] [] (S, I, L) = evk zcod none (d + 48) zc_X6_faultOf 91 [(0, .ref 31)] [] (S, J, L') ∧ Fi stG I J ∧ (∀ a j, ¬ a = 38 → L' a j = L a j) ∧ EnR J L' K res := by
  intro n
  induction n using Nat.strongRecOn with
  | _ n ih =>
    intro d I L t i T hn hi k hN h32 h hD hT
    have k31 := rd138 k h
    by_cases k0 : K t = nI 0
    · refine ⟨Sum.inl (t, T), I, L, Or.inl ⟨k0, rfl⟩, ?_, Fi.rf, fun _ _ _ => rfl, h, hD, hT⟩
      rw [B_X6_faultOf_60, if_neg (nI_nlt (by omega) (by omega))]
      simp only [gRd G, if_true, h.2.2.2.1, not_true, if_false, k31, k0]
    · obtain ⟨r, J, L', x, e, f, lo, q⟩ := s_statement d (L := L) G k hN h32 h hD hT
      have go : evk zcod none (d + 48) zc_X6_faultOf 60 [(0, .ref 31), (3, .int (nI i))] [] (S, I, L) = evk zcod none (d + 48) zc_X6_faultOf 60 [(0, .ref 31), (3, .int (nI (i + 1)))] [] (S, J, L') := by
        rw [B_X6_faultOf_60, if_neg (nI_nlt (by omega) (by omega))]
        simp only [gRd G, if_true, h.2.2.2.1, not_true, if_false, k31, k0, e, bV_eq, nI_add]
      match r, x, q with
      | Sum.inr (t', f'), x, q =>
        refine ⟨Sum.inr (t', f'), J, L', Or.inr ⟨k0, _, x, Or.inl ⟨_, rfl, rfl⟩⟩, go.trans ?_, f, lo, q⟩
        rw [B_X6_faultOf_60]
        simp only [gRd G, if_true, q.n0, not_false_iff, ite_self]
      | Sum.inl (t', T'), x, ⟨q1, q2⟩ =>
        obtain ⟨lt, le, ok⟩ := STX.ok k.2.2 h.1 x hT
        have kJ : TKV J L' K V := (TKV.lg (L' := L') ⟨(f.row 34 fun j => by unfold stG; omega).trans k.1, k.2⟩ fun j => lo 36 j (by omega))
        have hN' : L' 36 = N := by
          rw [← hN]
          exact funext fun j => lo 36 j (by omega)
        obtain ⟨m, hm⟩ : ∃ m, t' + m = 400 := ⟨400 - t', by omega⟩
        obtain ⟨res, J2, L2, x2, e2, f2, lo2, r2⟩ := ih m (by omega) d J L' t' (i + 1) T' hm (by omega) kJ hN' ((f _ _ (by unfold stG; omega)).trans h32) q1 q2 ok
        have up : ∀ {a b t T res}, a ≤ b → TX K V N a t T res → TX K V N b t T res := by
          intro a
          induction a with
          | zero =>
            intro b t T res _ z
            cases b with
            | zero => exact z
            | succ b => exact Or.inl z
          | succ a iha =>
            intro b t T res hab z
            obtain ⟨b', rfl⟩ : ∃ b', b = b' + 1 := ⟨b - 1, by omega⟩
            rcases z with z | ⟨z1, r, z2, z3⟩
            · exact Or.inl z
            · refine Or.inr ⟨z1, r, z2, z3.imp id ?_⟩
              rintro ⟨t', T', e, y⟩
              exact ⟨t', T', e, iha (by omega) y⟩
        exact ⟨res, J2, L2, Or.inr ⟨k0, _, x, Or.inr ⟨t', T', rfl, up (by omega) x2⟩⟩, go.trans e2, f.tr f2, fun a j ha => (lo2 a j ha).trans (lo a j ha), r2⟩
/-- what read tells: the fault, its place, and the text that is good -/
def RAns (P : Nat → Int32) : TR → Int32 × Int32
  | Sum.inr (t, f) => (nI f, P t)
  | Sum.inl (_, T) => if (tLt T).1 = 0 then (nI 0, -1) else (nI (tLt T).1, P (tLt T).2)
def GoodT (T : mTx) : TR → Prop
  | Sum.inr _ => False
  | Sum.inl (_, T') => T' = T ∧ (tLt T).1 = 0
def fcF (a j : Nat) : Prop := 20 ≤ a ∧ a ≤ 31 ∧ ¬ ((a = 22 ∨ a = 24 ∨ a = 26) ∧ j < 2) ∧ ¬ (a = 31 ∧ j < 3) ∨ a = 32 ∧ 4 ≤ j ∧ j ≤ 7 ∨ a = 34 ∨ a = 35
/-- what lies in a draft that is good -/
def DGood (J : mI) (T : mTx) : Prop := DL J (tLo T) (tSt T) ∧ DS J (tSi T) (tSt T) ∧ DH J (tHo T) (tSt T) ∧ (J 20 2 = tSt T 0 ∧ J 20 3 = tSt T 1 ∧ J 20 4 = tSt T 2) ∧ (J 21 3 = nI 0 ∧ J 21 4 = nI 0 ∧ J 21 5 = nI 0) ∧ (∃ u, u ≤ 432 ∧ J 28 2 = nI u ∧ ∀ k, k < 4 → ∃ p, J 30 k = nI p ∧ LWf (J 29) u p (tLw T k).1 (tLw T k).2) ∧ ∃ K t, TOK K t T
def ResOK (K : Nat → Int32) : TR → Prop
  | Sum.inr (_, f) => f = 1 ∨ f = 2
  | Sum.inl (t, T) => TOK K t T
theorem s_faultOf (d : Nat) {S : mS} {I : mI} {L : mJ} (G : Gd S) (hW : WCL L) {tp : Nat} (htp : tp ≤ 2000) (h0 : ∀ t, 401 ≤ t → I 34 t = nI 0) (hw : Wd I 21) : ∃ K P N e res J L', TKS (bC (I 8) tp) tp K P N e ∧ (∀ t, 401 ≤ t → K t = nI 0) ∧ TX K (fun t => (N t).toInt32) N 401 0 tx0 res ∧ evM zcod (d + 49) 52 [.ref 31, .ref 8, .int (nI tp)] (S, I, L) = some (some (.int (RAns P res).1), (uR S 32 5 8, J, L')) ∧ J 31 7 = (RAns P res).2 ∧ Fi fcF I J ∧ (∀ a j, ¬ a = 36 → ¬ a = 38 → L' a j = L a j) ∧ (∀ t, 401 ≤ t → J 34 t = nI 0) ∧ ResOK K res ∧ ∀ T, GoodT T res → DGood J T := by
  obtain ⟨gs, gl, -, -⟩ := gDraft G
  have gt := gTop G
  obtain ⟨J1, e1, f1, c1, ⟨b1, b2, b3⟩, ⟨b4, b5, b6⟩, b7, b8, b9⟩ := g_planClear (d + 45) (I := I) (L := L) (b := 20) gt.2.2.2.2.2.2.2.2.2.2.2.2.2.2.2.2.2.2.1 gt.2.2.2.2.2.2.2.2.2.2.2.2.2.2.2.2.2.2.2.1 gt.2.2.2.2.2.2.2.2.2.2.2.2.2.2.2.2.2.2.2.2 gs gl (by omega) (by omega) (by omega) (by omega)
  obtain ⟨G', z5⟩ := G.tape
  let J2 := uI (uI (uI (uI (uI (uI J1 31 3 (nI 0)) 31 4 (nI 0)) 31 6 (nI 0)) 31 7 (-1)) 31 8 (nI 0)) 31 9 (-1)
  have f2 : ∀ a j, ¬ a = 31 → J2 a j = J1 a j := fun a j q => (uI_off q).trans ((uI_off q).trans ((uI_off q).trans ((uI_off q).trans ((uI_off q).trans (uI_off q)))))
  have p1 : ∀ a j, pcF 20 21 28 29 30 a j → 20 ≤ a ∧ a ≤ 30 ∧ ¬ ((a = 22 ∨ a = 24 ∨ a = 26) ∧ j < 2) := by
    intro a j q
    unfold pcF clF at q
    omega
  have r8 : J2 8 = I 8 := funext fun j => (f2 8 j (by omega)).trans (f1 8 j fun q => by have := p1 _ _ q; omega)
  have r34 : ∀ j, J2 34 j = I 34 j := fun j => (f2 34 j (by omega)).trans (f1 34 j fun q => by have := p1 _ _ q; omega)
  obtain ⟨J3, L3, e, e3, f3, lo3, h4, tks, h401⟩ := s_scan (d + 39) (I := J2) (L := L) G hW htp (fun t ht => (r34 t).trans (h0 t ht))
  rw [r8] at tks
  have k3 : ∀ a j, ¬ scA a j → J3 a j = J2 a j := f3
  let J4 := uI J3 31 5 (J3 34 0)
  have f4 : ∀ a j, ¬ a = 31 → J4 a j = J3 a j := fun a j q => uI_off q
  have g4 : ∀ a j, ¬ a = 31 → ¬ scA a j → J4 a j = J1 a j := fun a j q w => (f4 a j q).trans ((k3 a j w).trans (f2 a j q))
  have v31 : ∀ j, ¬ j = 5 → J4 31 j = J2 31 j := fun j q => (uI_ix q).trans (k3 31 j (by unfold scA; omega))
  have w3 : J2 31 3 = nI 0 := (uI_ix (by omega)).trans ((uI_ix (by omega)).trans ((uI_ix (by omega)).trans ((uI_ix (by omega)).trans ((uI_ix (by omega)).trans (uI_same _ _ _ _)))))
  have w4 : J2 31 4 = nI 0 := (uI_ix (by omega)).trans ((uI_ix (by omega)).trans ((uI_ix (by omega)).trans ((uI_ix (by omega)).trans (uI_same _ _ _ _))))
  have w6 : J2 31 6 = nI 0 := (uI_ix (by omega)).trans ((uI_ix (by omega)).trans ((uI_ix (by omega)).trans (uI_same _ _ _ _)))
  have w8 : J2 31 8 = nI 0 := (uI_ix (by omega)).trans (uI_same _ _ _ _)
  have w9 : J2 31 9 = -1 := uI_same _ _ _ _
  have hw2 : ∀ a j, (a = 22 ∨ a = 24 ∨ a = 26) → j < 2 → J1 a j = I a j := fun a j q r => f1 a j fun z => (p1 a j z).2.2 ⟨q, r⟩
  obtain ⟨x1, x2, x3, x4, x5, x6⟩ := hw
  have rd : RD J4 0 := ⟨by omega, (v31 4 (by omega)).trans w4, by
    show uI J3 31 5 (J3 34 0) 31 5 = uI J3 31 5 (J3 34 0) 34 0
    rw [uI_same, uI_off (by omega)], (v31 6 (by omega)).trans w6, (f4 _ _ (by omega)).trans h4⟩
  have kT : TKV J4 L3 (J3 34) (fun t => (L3 36 t).toInt32) := ⟨funext fun j => f4 34 j (by omega), rfl, fun t hz => by
    by_cases c : t ≤ 400
    · exact (tks.2 t c).ok.2 hz
    · rw [h401 t (by omega)] at hz
      exact absurd hz (by decide +kernel)⟩
  have lw := c1.lw
  have dr : DRF J4 L3 0 tx0 := by
    refine ⟨⟨(g4 _ _ (by omega) (by unfold scA; omega)).trans ((hw2 _ _ (by omega) (by omega)).trans x1), (g4 _ _ (by omega) (by unfold scA; omega)).trans ((hw2 _ _ (by omega) (by omega)).trans x2), (g4 _ _ (by omega) (by unfold scA; omega)).trans b4, fun i hi => absurd hi (Nat.not_lt_zero _)⟩, ⟨(g4 _ _ (by omega) (by unfold scA; omega)).trans ((hw2 _ _ (by omega) (by omega)).trans x3), (g4 _ _ (by omega) (by unfold scA; omega)).trans ((hw2 _ _ (by omega) (by omega)).trans x4), (g4 _ _ (by omega) (by unfold scA; omega)).trans b5, fun i hi => absurd hi (Nat.not_lt_zero _)⟩, ⟨(g4 _ _ (by omega) (by unfold scA; omega)).trans ((hw2 _ _ (by omega) (by omega)).trans x5), (g4 _ _ (by omega) (by unfold scA; omega)).trans ((hw2 _ _ (by omega) (by omega)).trans x6), (g4 _ _ (by omega) (by unfold scA; omega)).trans b6, fun i hi => absurd hi (Nat.not_lt_zero _)⟩, ⟨(g4 _ _ (by omega) (by unfold scA; omega)).trans b1, (g4 _ _ (by omega) (by unfold scA; omega)).trans b2, (g4 _ _ (by omega) (by unfold scA; omega)).trans b3⟩, ⟨10, (g4 _ _ (by omega) (by unfold scA; omega)).trans lw.1, by omega, fun k hk => ?_⟩, ⟨(v31 3 (by omega)).trans w3, fun i hi => absurd hi (Nat.not_lt_zero _)⟩, (v31 8 (by omega)).trans w8, (v31 9 (by omega)).trans w9, Or.inl rfl⟩
    obtain ⟨p, y1, y2⟩ := lw.2 k hk
    exact ⟨p, (g4 _ _ (by omega) (by unfold scA; omega)).trans y1, y2.cg fun j => g4 _ _ (by omega) (by unfold scA; omega)⟩
  obtain ⟨res, J5, L5, tx, e5, f5, lo5, en⟩ := s_text (S := uR S 32 5 8) (N := L3 36) G' 400 d J4 L3 0 0 tx0 rfl (Nat.le_refl _) kT rfl ((f4 _ _ (by omega)).trans h4) rd dr (tx0_ok _)
  have r35 : ∀ j, J5 35 j = J3 35 j := fun j => (f5 35 j (by unfold stG; omega)).trans (f4 35 j (by omega))
  have ea : evM zcod (d + 49) 52 [.ref 31, .ref 8, .int (nI tp)] (S, I, L) = evk zcod none (d + 48) zc_X6_faultOf 91 [(0, .ref 31)] [] (uR S 32 5 8, J5, L5) := by
    refine Eq.trans ?_ e5
    rw [E_X6_faultOf, B_X6_faultOf_0]
    simp only [gRd G, gt, if_true, e1, bV_eq]
    rw [B_X6_faultOf_22]
    simp only [gRd G, if_true]
    rw [show uI (uI (uI (uI (uI (uI J1 31 3 (nI 0)) 31 4 (nI 0)) 31 6 (nI 0)) 31 7 (-1)) 31 8 (nI 0)) 31 9 (-1) = J2 from rfl, e3]
    simp only [bV_eq]
    rw [if_pos (show (uR S 32 5 8).1 = S.1 from rfl), B_X6_faultOf_46]
    simp only [gRd G', if_true, s_kindAt (d + 47) (L := L3) G' h4 (Nat.zero_le _), bI_eq]
    rfl
  have fA : ∀ J6, (∀ a j, ¬ a = 31 → J6 a j = J5 a j) → (∀ j, j < 3 → J6 31 j = J5 31 j) → Fi fcF I J6 := by
    intro J6 g1 g2 a j q
    by_cases c : a = 31
    · subst c
      have hj : j < 3 := by
        unfold fcF at q
        omega
      rw [g2 j hj, f5 31 j (by unfold stG; omega), v31 j (by omega)]
      show uI (uI (uI (uI (uI (uI J1 31 3 (nI 0)) 31 4 (nI 0)) 31 6 (nI 0)) 31 7 (-1)) 31 8 (nI 0)) 31 9 (-1) 31 j = _
      rw [uI_ix (by omega), uI_ix (by omega), uI_ix (by omega), uI_ix (by omega), uI_ix (by omega), uI_ix (by omega), f1 31 j (fun z => by have := p1 _ _ z; omega)]
    · by_cases st : stG a j
      · exfalso
        unfold stG at st
        unfold fcF at q
        omega
      · rw [g1 a j c, f5 a j st, f4 a j c, k3 a j (by unfold fcF at q; unfold scA; omega), f2 a j c, f1 a j (fun z => by have := p1 _ _ z; unfold fcF at q; omega)]
  have lo : ∀ a j, ¬ a = 36 → ¬ a = 38 → L5 a j = L a j := fun a j q w => (lo5 a j w).trans (lo3 a j q)
  have q401 : ∀ J6 : mI, (∀ a j, ¬ a = 31 → J6 a j = J5 a j) → ∀ t, 401 ≤ t → J6 34 t = nI 0 := fun J6 g t ht => (g 34 t (by omega)).trans ((f5 34 t (by unfold stG; omega)).trans ((f4 34 t (by omega)).trans (h401 t ht)))
  match res, tx, en with
  | Sum.inr (t, f), tx, en =>
    refine ⟨J3 34, J3 35, L3 36, e, _, J5, L5, tks, h401, tx, ?_, ?_, fA J5 (fun _ _ _ => rfl) (fun _ _ => rfl), lo, q401 J5 fun _ _ _ => rfl, en.2.1, fun T hT => absurd hT id⟩
    · rw [ea, B_X6_faultOf_91]
      simp only [gRd G', if_true, en.n0, not_false_iff]
      rw [B_X6_faultOf_114]
      simp only [gRd G', if_true]
      show some (some (Value.int (J5 31 6)), _) = some (some (Value.int (nI f)), _)
      rw [en.1]
    · exact en.2.2.trans (r35 t)
  | Sum.inl (t, T), tx, ⟨en1, en2, en3⟩ =>
    obtain ⟨D1, D2, D3, D4, ⟨u, u1, u2, u3⟩, D8, D9⟩ := en2
    let J6 := uI (uI J5 31 6 (J5 31 8)) 31 7 (J5 31 9)
    have g1 : ∀ a j, ¬ a = 31 → J6 a j = J5 a j := fun a j q => (uI_off q).trans (uI_off q)
    have g2 : ∀ j, j < 3 → J6 31 j = J5 31 j := fun j q => (uI_ix (by omega)).trans (uI_ix (by omega))
    have n9 : uI J5 31 6 (J5 31 8) 31 9 = J5 31 9 := uI_ix (by omega)
    have e6 : J6 31 6 = J5 31 8 := (uI_ix (by omega)).trans (uI_same _ _ _ _)
    refine ⟨J3 34, J3 35, L3 36, e, _, J6, L5, tks, h401, tx, ?_, ?_, fA J6 g1 g2, lo, q401 J6 g1, en3, fun T' hT => ?_⟩
    · rw [ea, B_X6_faultOf_91]
      simp only [gRd G', if_true, en1.2.2.2.1, not_true, if_false]
      rw [B_X6_faultOf_114]
      simp only [gRd G', if_true, n9]
      have v : J6 31 6 = (RAns (J3 35) (Sum.inl (t, T))).1 := by
        rw [e6, D9.1]
        show _ = (if (tLt T).1 = 0 then (nI 0, (-1 : Int32)) else (nI (tLt T).1, J3 35 (tLt T).2)).1
        by_cases c : (tLt T).1 = 0
        · rw [if_pos c, c]
        · rw [if_neg c]
      exact congrArg (fun x => some (some (Value.int x), (uR S 32 5 8, J6, L5))) v
    · show uI (uI J5 31 6 (J5 31 8)) 31 7 (J5 31 9) 31 7 = (if (tLt T).1 = 0 then (nI 0, (-1 : Int32)) else (nI (tLt T).1, J3 35 (tLt T).2)).2
      rw [uI_same, D9.2.1]
      by_cases c : (tLt T).1 = 0
      · rw [if_pos c, if_pos c]
      · rw [if_neg c, if_neg c, r35]
    · obtain ⟨rfl, l0⟩ := hT
      have v21 : ∀ j, J6 21 j = J1 21 j := fun j => (g1 _ _ (by omega)).trans ((f5 21 j (by unfold stG; omega)).trans (g4 21 j (by omega) (by unfold scA; omega)))
      exact ⟨D1.cg (fun j => g1 _ _ (by omega)) (fun j => g1 _ _ (by omega)) (fun _ _ => ⟨rfl, rfl, rfl⟩), D2.cg (fun j => g1 _ _ (by omega)) (fun j => g1 _ _ (by omega)) (fun _ _ => ⟨rfl, rfl⟩), D3.cg (fun j => g1 _ _ (by omega)) (fun j => g1 _ _ (by omega)) (fun _ _ => ⟨rfl, rfl, rfl⟩), ⟨(g1 _ _ (by omega)).trans D4.1, (g1 _ _ (by omega)).trans D4.2.1, (g1 _ _ (by omega)).trans D4.2.2⟩, ⟨(v21 3).trans b7, (v21 4).trans b8, (v21 5).trans b9⟩, ⟨u, by have := en1.1; omega, (g1 _ _ (by omega)).trans u1, fun k hk => by
        obtain ⟨p, p1', p2'⟩ := u3 k hk
        exact ⟨p, (g1 _ _ (by omega)).trans p1', p2'.cg fun j => g1 _ _ (by omega)⟩⟩, _, _, en3⟩
