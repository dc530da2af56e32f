/-! statements, class side: loads, silks, hooks -/
abbrev mTx : Type := (Nat × Nat × Nat) × (Nat → Int32) × (Nat → mLaw) × List Nat × (Nat × Nat)
def up1 (c : Nat → Int32) (b : Nat) (y : Int32) : Nat → Int32 := fun j => if j = b then y else c j
theorem up1_at (c : Nat → Int32) (b : Nat) (y : Int32) (j : Nat) : up1 c b y j = if j = b then y else c j := rfl
theorem up1_o {c : Nat → Int32} {b j : Nat} {y : Int32} (h : ¬ j = b) : up1 c b y j = c j := if_neg h
theorem up1_s {c : Nat → Int32} {b : Nat} {y : Int32} : up1 c b y b = y := if_pos rfl
/-- the row that is made, and the rows ahead of it -/
def RWn (M : mI) (cl w n : Nat) (base c : Nat → Int32) : Prop := (∀ j, j < n * w → M cl j = base j) ∧ ∀ b, b < w → M cl (n * w + b) = c b
theorem RWn.cg {M N : mI} {cl w n : Nat} {base c : Nat → Int32} (h : RWn M cl w n base c) (e : ∀ j, N cl j = M cl j) : RWn N cl w n base c := ⟨fun j hj => (e j).trans (h.1 j hj), fun b hb => (e _).trans (h.2 b hb)⟩
theorem RWn.put {M : mI} {cl w n : Nat} {base c : Nat → Int32} (h : RWn M cl w n base c) (b : Nat) (y : Int32) : RWn (uI M cl (n * w + b) y) cl w n base (up1 c b y) := by
  refine ⟨fun j hj => (uI_ix (by omega)).trans (h.1 j hj), fun j hj => ?_⟩
  by_cases e : j = b
  · subst e
    rw [uI_same, up1_s]
  · rw [uI_ix (by omega), up1_o e]
    exact h.2 j hj
theorem s_addAny (d : Nat) {S : mS} {I : mI} {L : mJ} {t c m w n : Nat} (h : Tg S I t c m w n) (htc : t ≠ c) : ∃ x J n', evM zcod (d + 2) 7 [.ref t] (S, I, L) = some (some (.int x), (S, J, L)) ∧ Fi (fun a j => a = t ∧ j = 3 ∨ a = c) I J ∧ Tg S J t c m w n' ∧ (n < m → x = nI n ∧ n' = n + 1 ∧ RWn J c w n (I c) (fun _ => nI 0)) := by
  by_cases q : n < m
  · obtain ⟨J, e, f, T, z⟩ := s_add d (L := L) h q htc
    exact ⟨_, J, n + 1, e, f.up fun _ _ z => z.elim Or.inl (fun w => Or.inr w.1), T, fun _ => ⟨rfl, rfl, fun j hj => f c j (by rintro (w | w); exact htc w.1.symm; omega), fun b hb => z b hb⟩⟩
  · exact ⟨_, I, n, s_addX d h q, Fi.rf, h, fun z => absurd z q⟩
theorem s_putAny (d : Nat) {S : mS} {I : mI} {L : mJ} {t c m w n : Nat} (h : Tg S I t c m w n) (htc : t ≠ c) (x : Int32) {b : Nat} (hb : b < w) (y : Int32) : ∃ J, evM zcod (d + 1) 6 [.ref t, .int x, .int (nI b), .int y] (S, I, L) = some (none, (S, J, L)) ∧ Fi (fun a _ => a = c) I J ∧ Tg S J t c m w n ∧ ∀ a, x = nI a → a < n → J = uI I c (a * w + b) y := by
  have hn : n ≤ 100 := by have := h.2.2.2.2.2.2.2; omega
  by_cases q : inN x n = true
  · have q' := q
    unfold inN at q'
    simp only [Bool.and_eq_true, decide_eq_true_eq] at q'
    obtain ⟨a, ha, rfl⟩ := i_of2 q'.1 q'.2
    refine ⟨_, s_putN d h ha hb y, Fi.u Fi.rf rfl, h.fi (uI_off htc) (uI_off htc) (uI_off htc), fun a' e ha' => ?_⟩
    have : a' = a := by
      rw [i_eq, t_nI (by omega), t_nI (by omega)] at e
      omega
    rw [this]
  · refine ⟨I, s_putX d h q _ y, Fi.rf, h, fun a e ha => ?_⟩
    rw [e, inN_nI (by omega)] at q
    exact absurd (decide_eq_true ha) q
def DL (I : mI) (n : Nat) (st : Nat → Int32) : Prop := I 22 0 = nI 7 ∧ I 22 1 = nI 7 ∧ I 22 3 = nI n ∧ ∀ i, i < n → I 23 (i * 7 + 0) = st (60 + i) ∧ I 23 (i * 7 + 1) = st (10 + i) ∧ I 23 (i * 7 + 2) = st (20 + i) ∧ I 23 (i * 7 + 3) = nI 0 ∧ I 23 (i * 7 + 4) = nI 0 ∧ I 23 (i * 7 + 5) = -2 ∧ I 23 (i * 7 + 6) = -2
def DS (I : mI) (n : Nat) (st : Nat → Int32) : Prop := I 24 0 = nI 5 ∧ I 24 1 = nI 4 ∧ I 24 3 = nI n ∧ ∀ i, i < n → I 25 (i * 4 + 0) = st (30 + i) ∧ I 25 (i * 4 + 1) = -2 ∧ I 25 (i * 4 + 2) = nI 0 ∧ I 25 (i * 4 + 3) = st (80 + i)
def DH (I : mI) (n : Nat) (st : Nat → Int32) : Prop := I 26 0 = nI 5 ∧ I 26 1 = nI 4 ∧ I 26 3 = nI n ∧ ∀ i, i < n → I 27 (i * 4 + 0) = st (70 + i) ∧ I 27 (i * 4 + 1) = st (40 + i) ∧ I 27 (i * 4 + 2) = st (50 + i) ∧ I 27 (i * 4 + 3) = nI 0
theorem g21 {S : mS} (G : Gd S) : kK S 21 = 8 ∧ kR S 21 0 = 22 ∧ kR S 21 1 = 24 ∧ kR S 21 2 = 26 ∧ kK S 22 = 9 ∧ kR S 22 2 = 23 ∧ kK S 23 = 20 ∧ kN S 23 = 49 ∧ kK S 24 = 9 ∧ kR S 24 2 = 25 ∧ kK S 25 = 20 ∧ kN S 25 = 20 ∧ kK S 26 = 9 ∧ kR S 26 2 = 27 ∧ kK S 27 = 20 ∧ kN S 27 = 20 := gSt G (a := 21) (by decide +kernel)
theorem DL.tg {S : mS} (G : Gd S) {I : mI} {n : Nat} {st : Nat → Int32} (h : DL I n st) (hn : n ≤ 7) : Tg S I 22 23 7 7 n := by
  have g := g21 G
  exact ⟨g.2.2.2.2.1, g.2.2.2.2.2.1, g.2.2.2.2.2.2.1, by rw [g.2.2.2.2.2.2.2.1]; omega, h.1, h.2.1, h.2.2.1, hn, by omega, by omega⟩
theorem DS.tg {S : mS} (G : Gd S) {I : mI} {n : Nat} {st : Nat → Int32} (h : DS I n st) (hn : n ≤ 5) : Tg S I 24 25 5 4 n := by
  have g := g21 G
  exact ⟨g.2.2.2.2.2.2.2.2.1, g.2.2.2.2.2.2.2.2.2.1, g.2.2.2.2.2.2.2.2.2.2.1, by rw [g.2.2.2.2.2.2.2.2.2.2.2.1]; omega, h.1, h.2.1, h.2.2.1, hn, by omega, by omega⟩
theorem DH.tg {S : mS} (G : Gd S) {I : mI} {n : Nat} {st : Nat → Int32} (h : DH I n st) (hn : n ≤ 5) : Tg S I 26 27 5 4 n := by
  have g := g21 G
  exact ⟨g.2.2.2.2.2.2.2.2.2.2.2.2.1, g.2.2.2.2.2.2.2.2.2.2.2.2.2.1, g.2.2.2.2.2.2.2.2.2.2.2.2.2.2.1, by rw [g.2.2.2.2.2.2.2.2.2.2.2.2.2.2.2]; omega, h.1, h.2.1, h.2.2.1, hn, by omega, by omega⟩
theorem one_m (x : Int32) : nI 1 * x = x := by
  rw [← l_1, Int32.one_mul]
/-- the late fault behind a number -/
def nbl (V : Nat → Int32) (sg lo hi : Int32) (s : mSt) (l : Nat × Nat) : Nat × Nat := if lo ≤ sg * V s.1 ∧ sg * V s.1 ≤ hi then l else lt1 l 5 s.1
def nml (N : Nat → Int64) (nm : List Nat) (s : mSt) (l : Nat × Nat) : Nat × Nat := if twB N nm s.1 = true then lt1 l 3 s.1 else l
theorem tk_up {K : Nat → Int32} {x : Int32} {s : mSt} (h : (tk K x s).2 = 0) : s.2 = 0 := (tk_ok h).1
theorem CSt.fi {I J : mI} {s : mSt} (h : CSt I s) (e : ∀ j, J 31 j = I 31 j) (e4 : ∀ j, J 34 j = I 34 j) (e5 : ∀ j, J 35 j = I 35 j) (e2 : J 32 4 = I 32 4) : CSt J s := by
  rcases h with ⟨h1, h2⟩ | h
  · refine Or.inl ⟨h1, h2.1, (e _).trans h2.2.1, ?_, (e _).trans h2.2.2.2.1, e2.trans h2.2.2.2.2⟩
    rw [e, e4]
    exact h2.2.2.1
  · refine Or.inr ⟨(e _).trans h.1, h.2.1, ?_⟩
    rw [e, e5]
    exact h.2.2
def ldF (a j : Nat) : Prop := naF a j ∨ a = 22 ∧ j = 3 ∨ a = 23
def slF (a j : Nat) : Prop := naF a j ∨ a = 24 ∧ j = 3 ∨ a = 25
def hkF (a j : Nat) : Prop := naF a j ∨ a = 26 ∧ j = 3 ∨ a = 27
def upL (st : Nat → Int32) (n : Nat) (x w p : Int32) : Nat → Int32 := up1 (up1 (up1 st (60 + n) x) (10 + n) w) (20 + n) p
theorem s_loadSt (d : Nat) {S : mS} {I : mI} {L : mJ} {K V : Nat → Int32} (G : Gd S) (k : TKV I L K V) (h32 : I 32 4 = nI 401) {t n : Nat} {st : Nat → Int32} (h : RD I t) (hD : DL I n st) (hn : n ≤ 7) {l : Nat × Nat} {nm : List Nat} (hl : LT I l) (hN : NMc I L nm) (hN2 : n < 7 → nm.length ≤ 16) {s1 s2 s3 s4 s5 : mSt} (e1 : s1 = fst1 K n 7 t) (e2 : s2 = tk K (nI 2) s1) (e3 : s3 = tk K (nI 3) s2) (e4 : s4 = tk K (nI 3) s3) (e5 : s5 = tk K (nI 3) s4) : ∃ J L', evM zcod (d + 5) 54 [.ref 31] (S, I, L) = some (none, (S, J, L')) ∧ Fi ldF I J ∧ (∀ a j, ¬ a = 38 → L' a j = L a j) ∧ CSt J s5 ∧ (s5.2 = 0 → n < 7 ∧ DL J (n + 1) (upL st n (V s2.1) (V s3.1) (V s4.1)) ∧ LT J (nbl V (nI 1) (nI 0) (nI 99) s4 (nbl V (nI 1) (nI 1) (nI 9) s3 (nbl V (nI 1) (nI 0) (nI 19) s2 (nml (L 36) nm s1 l)))) ∧ NMc J L' (nm ++ [s1.1])) := by
  have T0 := hD.tg G hn
  have n7 : s1.2 = 0 → n < 7 := fun z => by
    by_cases q : n < 7
    · exact q
    · rw [e1] at z
      unfold fst1 at z
      rw [if_neg q] at z
      exact absurd (show 2 = 0 from z) (by decide)
  obtain ⟨J1, w1, f1, m1⟩ := s_takeFirst d (L := L) G k h T0
  rw [← e1] at m1
  have F1 : Fi naF I J1 := f1.up fun _ _ z => ⟨z.1, by have := z.2; omega, by have := z.2; omega⟩
  have k1 := k.cg (f1.up fun _ _ => tkA_r)
  have h32' : J1 32 4 = nI 401 := (f1 _ _ (by unfold tkA; omega)).trans h32
  have hl1 : LT J1 l := hl.cg (f1 _ _ (by unfold tkA; omega)) (f1 _ _ (by unfold tkA; omega)) (fun t => f1 _ _ (by unfold tkA; omega))
  have hN1 : NMc J1 L nm := ⟨(f1 _ _ (by unfold tkA; omega)).trans hN.1, hN.2⟩
  obtain ⟨J2, L', w2, f2, lo, m2, q2⟩ := s_takeName d (L := L) G k1 h32' m1 (l := l) (nm := nm) (fun z => ⟨hl1, hN1, hN2 (n7 z)⟩)
  rw [← e2] at m2 q2
  have k2 : TKV J2 L' K V := (k1.st (f2.up fun _ _ => naF_st)).lg fun j => lo 36 j (by omega)
  have F2 := F1.tr f2
  have T2 : Tg S J2 22 23 7 7 n := T0.fi (F2 _ _ (by unfold naF; omega)) (F2 _ _ (by unfold naF; omega)) (F2 _ _ (by unfold naF; omega))
  obtain ⟨x, J3, n', w3, f3, T3, q3⟩ := s_addAny (d + 2) (L := L') T2 (by omega)
  have up3 : ∀ {I J : mI} {s : mSt}, CSt I s → Fi (fun a j => a = 22 ∧ j = 3 ∨ a = 23) I J → CSt J s := fun h f => h.fi (fun j => f _ _ (by omega)) (fun j => f _ _ (by omega)) (fun j => f _ _ (by omega)) (f _ _ (by omega))
  have kp3 : ∀ {I J : mI}, TKV I L' K V → Fi (fun a j => a = 22 ∧ j = 3 ∨ a = 23) I J → TKV J L' K V := fun h f => ⟨(f.row 34 fun j => by omega).trans h.1, h.2⟩
  have m3 := up3 m2 f3
  have k3 := kp3 k2 f3
  have h32c : ∀ {J : mI}, Fi ldF I J → J 32 4 = nI 401 := fun f => (f _ _ (by unfold ldF naF; omega)).trans h32
  have F3 : Fi ldF I J3 := (F2.up fun _ _ => Or.inl).tr (f3.up fun _ _ => Or.inr)
  have lc3 : ∀ {I J : mI} {l : Nat × Nat}, LT I l → Fi (fun a j => a = 22 ∧ j = 3 ∨ a = 23) I J → LT J l := fun h f => h.cg (f _ _ (by omega)) (f _ _ (by omega)) (fun t => f _ _ (by omega))
  have nuL : ∀ {I J : mI}, Fi nuF I J → Fi ldF I J := fun f => f.up fun _ _ z => Or.inl ⟨z.1, by have := z.2; omega, by have := z.2; omega⟩
  have up23 : ∀ {I J : mI}, Fi (fun a _ => a = 23) I J → Fi (fun a j => a = 22 ∧ j = 3 ∨ a = 23) I J := fun f => f.up fun _ _ z => Or.inr z
  have tgn : ∀ {I J : mI} {n' : Nat}, Tg S I 22 23 7 7 n' → Fi nuF I J → Tg S J 22 23 7 7 n' := fun h f => h.fi (f _ _ (by unfold nuF; omega)) (f _ _ (by unfold nuF; omega)) (f _ _ (by unfold nuF; omega))
  have r23 : ∀ {I J : mI}, Fi nuF I J → ∀ j, J 23 j = I 23 j := fun f j => f _ _ (by unfold nuF; omega)
  obtain ⟨y1, J4, w4, f4, m4, q4⟩ := s_takeNumber d (L := L') G k3 (h32c F3) m3 (nI 1) (nI 0) (nI 19) (l := nml (L 36) nm s1 l) (fun z => by
    have h2 : (tk K (nI 2) s1).2 = 0 := by rw [← e2]; exact z
    exact lc3 (q2 z).1 f3)
  rw [← e3] at m4 q4
  have F4 := F3.tr (nuL f4)
  have k4 : TKV J4 L' K V := k3.st (f4.up fun _ _ => nuF_st)
  obtain ⟨J5, w5, f5, T5, q5⟩ := s_putAny (d + 3) (L := L') (tgn T3 f4) (by omega) x (b := 0) (by omega) y1
  have F5 : Fi ldF I J5 := F4.tr (f5.up fun _ _ z => Or.inr (Or.inr z))
  obtain ⟨y2, J6, w6, f6, m6, q6⟩ := s_takeNumber d (L := L') G (kp3 k4 (up23 f5)) (h32c F5) (up3 m4 (up23 f5)) (nI 1) (nI 1) (nI 9) (l := nbl V (nI 1) (nI 0) (nI 19) s2 (nml (L 36) nm s1 l)) (fun z => lc3 (q4 z).2 (up23 f5))
  rw [← e4] at m6 q6
  have F6 := F5.tr (nuL f6)
  have k6 : TKV J6 L' K V := (kp3 k4 (up23 f5)).st (f6.up fun _ _ => nuF_st)
  obtain ⟨J7, w7, f7, T7, q7⟩ := s_putAny (d + 3) (L := L') (tgn T5 f6) (by omega) x (b := 1) (by omega) y2
  have F7 : Fi ldF I J7 := F6.tr (f7.up fun _ _ z => Or.inr (Or.inr z))
  obtain ⟨y3, J8, w8, f8, m8, q8⟩ := s_takeNumber d (L := L') G (kp3 k6 (up23 f7)) (h32c F7) (up3 m6 (up23 f7)) (nI 1) (nI 0) (nI 99) (l := nbl V (nI 1) (nI 1) (nI 9) s3 (nbl V (nI 1) (nI 0) (nI 19) s2 (nml (L 36) nm s1 l))) (fun z => lc3 (q6 z).2 (up23 f7))
  rw [← e5] at m8 q8
  have F8 := F7.tr (nuL f8)
  obtain ⟨J9, w9, f9, T9, q9⟩ := s_putAny (d + 3) (L := L') (tgn T7 f8) (by omega) x (b := 2) (by omega) y3
  obtain ⟨J10, w10, f10, T10, q10⟩ := s_putAny (d + 3) (L := L') T9 (by omega) x (b := 3) (by omega) (nI 0)
  obtain ⟨J11, w11, f11, T11, q11⟩ := s_putAny (d + 3) (L := L') T10 (by omega) x (b := 5) (by omega) (-2)
  obtain ⟨J12, w12, f12, T12, q12⟩ := s_putAny (d + 3) (L := L') T11 (by omega) x (b := 6) (by omega) (-2)
  have fz : Fi (fun a _ => a = 23) J8 J12 := ((f9.tr f10).tr f11).tr f12
  refine ⟨J12, L', ?_, F8.tr (fz.up fun _ _ z => Or.inr (Or.inr z)), lo, up3 m8 (up23 fz), fun z5 => ?_⟩
  · rw [E_X6_loadStatement, B_X6_loadStatement_0]
    simp only [gRd G, gTop G, g21 G, if_true, w1, bV_eq, w2, w3, bI_eq, w4, w5]
    rw [B_X6_loadStatement_39]
    simp only [gRd G, g21 G, if_true, w6, bI_eq, w7, bV_eq, w8, w9]
    rw [B_X6_loadStatement_67]
    simp only [g21 G, if_true, w10, bV_eq, w11, w12]
  · have z4 : s4.2 = 0 := by rw [e5] at z5; exact tk_up z5
    have z3 : s3.2 = 0 := by rw [e4] at z4; exact tk_up z4
    have z2 : s2.2 = 0 := by rw [e3] at z3; exact tk_up z3
    have z1 : s1.2 = 0 := by rw [e2] at z2; exact tk_up z2
    have hn7 := n7 z1
    obtain ⟨a1, a2, a3⟩ := q3 hn7
    obtain ⟨b1, b2⟩ := q4 z3
    obtain ⟨c1, c2⟩ := q6 z4
    obtain ⟨d1, d2⟩ := q8 z5
    rw [one_m] at b1 c1 d1
    subst a2
    have r3 := a3
    have r5 : RWn J5 23 7 n (J2 23) (up1 (fun _ => nI 0) 0 y1) := by rw [q5 n a1 (by omega)]; exact (r3.cg (r23 f4)).put 0 y1
    have r7 : RWn J7 23 7 n (J2 23) (up1 (up1 (fun _ => nI 0) 0 y1) 1 y2) := by rw [q7 n a1 (by omega)]; exact (r5.cg (r23 f6)).put 1 y2
    have r9 : RWn J9 23 7 n (J2 23) (up1 (up1 (up1 (fun _ => nI 0) 0 y1) 1 y2) 2 y3) := by rw [q9 n a1 (by omega)]; exact (r7.cg (r23 f8)).put 2 y3
    have r10 : RWn J10 23 7 n (J2 23) (up1 (up1 (up1 (up1 (fun _ => nI 0) 0 y1) 1 y2) 2 y3) 3 (nI 0)) := by rw [q10 n a1 (by omega)]; exact r9.put 3 (nI 0)
    have r11 : RWn J11 23 7 n (J2 23) (up1 (up1 (up1 (up1 (up1 (fun _ => nI 0) 0 y1) 1 y2) 2 y3) 3 (nI 0)) 5 (-2)) := by rw [q11 n a1 (by omega)]; exact r10.put 5 (-2)
    have r12 : RWn J12 23 7 n (J2 23) (up1 (up1 (up1 (up1 (up1 (up1 (fun _ => nI 0) 0 y1) 1 y2) 2 y3) 3 (nI 0)) 5 (-2)) 6 (-2)) := by rw [q12 n a1 (by omega)]; exact r11.put 6 (-2)
    have b2' : ∀ j, J2 23 j = I 23 j := fun j => F2 _ _ (by unfold naF; omega)
    refine ⟨hn7, ⟨T12.2.2.2.2.1, T12.2.2.2.2.2.1, T12.2.2.2.2.2.2.1, fun i hi => ?_⟩, lc3 d2 (up23 fz), ?_⟩
    · unfold upL
      by_cases ei : i = n
      · subst ei
        rw [r12.2 0 (by omega), r12.2 1 (by omega), r12.2 2 (by omega), r12.2 3 (by omega), r12.2 4 (by omega), r12.2 5 (by omega), r12.2 6 (by omega)]
        rw [up1_o (show ¬ 60 + i = 20 + i by omega), up1_o (show ¬ 60 + i = 10 + i by omega), up1_s, up1_o (show ¬ 10 + i = 20 + i by omega), up1_s, up1_s]
        refine ⟨?_, ?_, ?_, ?_, ?_, ?_, ?_⟩
        · exact b1
        · exact c1
        · exact d1
        · rfl
        · rfl
        · rfl
        · rfl
      · have hi' : i < n := by omega
        rw [r12.1 _ (by omega), r12.1 _ (by omega), r12.1 _ (by omega), r12.1 _ (by omega), r12.1 _ (by omega), r12.1 _ (by omega), r12.1 _ (by omega)]
        rw [up1_o (show ¬ 60 + i = 20 + n by omega), up1_o (show ¬ 60 + i = 10 + n by omega), up1_o (show ¬ 60 + i = 60 + n by omega), up1_o (show ¬ 10 + i = 20 + n by omega), up1_o (show ¬ 10 + i = 10 + n by omega), up1_o (show ¬ 10 + i = 60 + n by omega), up1_o (show ¬ 20 + i = 20 + n by omega), up1_o (show ¬ 20 + i = 10 + n by omega), up1_o (show ¬ 20 + i = 60 + n by omega)]
        simp only [b2']
        exact hD.2.2.2 i hi'
    · have nn := (q2 z2).2
      have gg : Fi (fun a j => a = 31 ∧ 4 ≤ j ∨ a = 22 ∨ a = 23) J2 J12 := ((((((f3.up fun _ _ z => by omega).tr (f4.up fun _ _ z => by unfold nuF at z; omega)).tr (f5.up fun _ _ z => by omega)).tr (f6.up fun _ _ z => by unfold nuF at z; omega)).tr (f7.up fun _ _ z => by omega)).tr (f8.up fun _ _ z => by unfold nuF at z; omega)).tr (fz.up fun _ _ z => by omega)
      exact ⟨(gg _ _ (by omega)).trans nn.1, nn.2⟩
