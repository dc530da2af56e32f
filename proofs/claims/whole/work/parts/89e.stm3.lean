/-! statements, class side: hooks, silks, numbers alone -/
def upH (st : Nat → Int32) (n : Nat) (x w p : Int32) : Nat → Int32 := up1 (up1 (up1 st (70 + n) x) (40 + n) w) (50 + n) p
theorem s_hookSt (d : Nat) {S : mS} {I : mI} {L : mJ} {K V : Nat → Int32} (G : Gd S) (k : TKV I L K V) (h32 : I 32 4 = nI 401) {t n : Nat} {st : Nat → Int32} (h : RD I t) (hD : DH I n st) (hn : n ≤ 5) {l : Nat × Nat} {nm : List Nat} (hl : LT I l) (hN : NMc I L nm) (hN2 : n < 5 → nm.length ≤ 16) {s1 s2 s3 s4 s5 : mSt} (e1 : s1 = fst1 K n 5 t) (e2 : s2 = tk K (nI 2) s1) (e3 : s3 = tk K (nI 3) s2) (e4 : s4 = tk K (nI 3) s3) (e5 : s5 = tk K (nI 3) s4) : ∃ J L', evM zcod (d + 5) 56 [.ref 31] (S, I, L) = some (none, (S, J, L')) ∧ Fi hkF I J ∧ (∀ a j, ¬ a = 38 → L' a j = L a j) ∧ CSt J s5 ∧ (s5.2 = 0 → n < 5 ∧ DH J (n + 1) (upH st n (V s2.1) (V s3.1) (V s4.1)) ∧ LT J (nbl V (nI 1) (nI 1) (nI 9) s4 (nbl V (nI 1) (nI 0) (nI 5) s3 (nbl V (nI 1) (nI 0) (nI 19) s2 (nml (L 36) nm s1 l)))) ∧ NMc J L' (nm ++ [s1.1])) := by
  have T0 := hD.tg G hn
  have n5 : s1.2 = 0 → n < 5 := fun z => by
    by_cases q : n < 5
    · exact q
    · rw [e1] at z
      unfold fst1 at z
      rw [if_neg q] at z
      exact absurd (show 2 = 0 from z) (by decide)
  obtain ⟨J1, w1, f1, m1⟩ := s_takeFirst d (L := L) G k h T0
  rw [← e1] at m1
  have F1 : Fi naF I J1 := f1.up fun _ _ z => ⟨z.1, by have := z.2; omega, by have := z.2; omega⟩
  have k1 := k.cg (f1.up fun _ _ => tkA_r)
  have h32' : J1 32 4 = nI 401 := (f1 _ _ (by unfold tkA; omega)).trans h32
  have hl1 : LT J1 l := hl.cg (f1 _ _ (by unfold tkA; omega)) (f1 _ _ (by unfold tkA; omega)) (fun t => f1 _ _ (by unfold tkA; omega))
  have hN1 : NMc J1 L nm := ⟨(f1 _ _ (by unfold tkA; omega)).trans hN.1, hN.2⟩
  obtain ⟨J2, L', w2, f2, lo, m2, q2⟩ := s_takeName d (L := L) G k1 h32' m1 (l := l) (nm := nm) (fun z => ⟨hl1, hN1, hN2 (n5 z)⟩)
  rw [← e2] at m2 q2
  have k2 : TKV J2 L' K V := (k1.st (f2.up fun _ _ => naF_st)).lg fun j => lo 36 j (by omega)
  have F2 := F1.tr f2
  have T2 : Tg S J2 26 27 5 4 n := T0.fi (F2 _ _ (by unfold naF; omega)) (F2 _ _ (by unfold naF; omega)) (F2 _ _ (by unfold naF; omega))
  obtain ⟨x, J3, n', w3, f3, T3, q3⟩ := s_addAny (d + 2) (L := L') T2 (by omega)
  have up3 : ∀ {I J : mI} {s : mSt}, CSt I s → Fi (fun a j => a = 26 ∧ j = 3 ∨ a = 27) I J → CSt J s := fun h f => h.fi (fun j => f _ _ (by omega)) (fun j => f _ _ (by omega)) (fun j => f _ _ (by omega)) (f _ _ (by omega))
  have kp3 : ∀ {I J : mI}, TKV I L' K V → Fi (fun a j => a = 26 ∧ j = 3 ∨ a = 27) I J → TKV J L' K V := fun h f => ⟨(f.row 34 fun j => by omega).trans h.1, h.2⟩
  have m3 := up3 m2 f3
  have k3 := kp3 k2 f3
  have h32c : ∀ {J : mI}, Fi hkF I J → J 32 4 = nI 401 := fun f => (f _ _ (by unfold hkF naF; omega)).trans h32
  have F3 : Fi hkF I J3 := (F2.up fun _ _ => Or.inl).tr (f3.up fun _ _ => Or.inr)
  have lc3 : ∀ {I J : mI} {l : Nat × Nat}, LT I l → Fi (fun a j => a = 26 ∧ j = 3 ∨ a = 27) I J → LT J l := fun h f => h.cg (f _ _ (by omega)) (f _ _ (by omega)) (fun t => f _ _ (by omega))
  have nuL : ∀ {I J : mI}, Fi nuF I J → Fi hkF I J := fun f => f.up fun _ _ z => Or.inl ⟨z.1, by have := z.2; omega, by have := z.2; omega⟩
  have up23 : ∀ {I J : mI}, Fi (fun a _ => a = 27) I J → Fi (fun a j => a = 26 ∧ j = 3 ∨ a = 27) I J := fun f => f.up fun _ _ z => Or.inr z
  have tgn : ∀ {I J : mI} {n' : Nat}, Tg S I 26 27 5 4 n' → Fi nuF I J → Tg S J 26 27 5 4 n' := fun h f => h.fi (f _ _ (by unfold nuF; omega)) (f _ _ (by unfold nuF; omega)) (f _ _ (by unfold nuF; omega))
  have r23 : ∀ {I J : mI}, Fi nuF I J → ∀ j, J 27 j = I 27 j := fun f j => f _ _ (by unfold nuF; omega)
  obtain ⟨y1, J4, w4, f4, m4, q4⟩ := s_takeNumber d (L := L') G k3 (h32c F3) m3 (nI 1) (nI 0) (nI 19) (l := nml (L 36) nm s1 l) (fun z => by
    have h2 : (tk K (nI 2) s1).2 = 0 := by rw [← e2]; exact z
    exact lc3 (q2 z).1 f3)
  rw [← e3] at m4 q4
  have F4 := F3.tr (nuL f4)
  have k4 : TKV J4 L' K V := k3.st (f4.up fun _ _ => nuF_st)
  obtain ⟨J5, w5, f5, T5, q5⟩ := s_putAny (d + 3) (L := L') (tgn T3 f4) (by omega) x (b := 0) (by omega) y1
  have F5 : Fi hkF I J5 := F4.tr (f5.up fun _ _ z => Or.inr (Or.inr z))
  obtain ⟨y2, J6, w6, f6, m6, q6⟩ := s_takeNumber d (L := L') G (kp3 k4 (up23 f5)) (h32c F5) (up3 m4 (up23 f5)) (nI 1) (nI 0) (nI 5) (l := nbl V (nI 1) (nI 0) (nI 19) s2 (nml (L 36) nm s1 l)) (fun z => lc3 (q4 z).2 (up23 f5))
  rw [← e4] at m6 q6
  have F6 := F5.tr (nuL f6)
  have k6 : TKV J6 L' K V := (kp3 k4 (up23 f5)).st (f6.up fun _ _ => nuF_st)
  obtain ⟨J7, w7, f7, T7, q7⟩ := s_putAny (d + 3) (L := L') (tgn T5 f6) (by omega) x (b := 1) (by omega) y2
  have F7 : Fi hkF I J7 := F6.tr (f7.up fun _ _ z => Or.inr (Or.inr z))
  obtain ⟨y3, J8, w8, f8, m8, q8⟩ := s_takeNumber d (L := L') G (kp3 k6 (up23 f7)) (h32c F7) (up3 m6 (up23 f7)) (nI 1) (nI 1) (nI 9) (l := nbl V (nI 1) (nI 0) (nI 5) s3 (nbl V (nI 1) (nI 0) (nI 19) s2 (nml (L 36) nm s1 l))) (fun z => lc3 (q6 z).2 (up23 f7))
  rw [← e5] at m8 q8
  have F8 := F7.tr (nuL f8)
  obtain ⟨J9, w9, f9, T9, q9⟩ := s_putAny (d + 3) (L := L') (tgn T7 f8) (by omega) x (b := 2) (by omega) y3
  have fz : Fi (fun a _ => a = 27) J8 J9 := f9
  refine ⟨J9, L', ?_, F8.tr (fz.up fun _ _ z => Or.inr (Or.inr z)), lo, up3 m8 (up23 fz), fun z5 => ?_⟩
  · rw [E_X6_hookStatement, B_X6_hookStatement_0]
    simp only [gRd G, gTop G, g21 G, if_true, w1, bV_eq, w2, w3, bI_eq, w4, w5]
    rw [B_X6_hookStatement_39]
    simp only [gRd G, g21 G, if_true, w6, bI_eq, w7, bV_eq, w8, w9]
    rw [B_X6_hookStatement_66]
  · have z4 : s4.2 = 0 := by rw [e5] at z5; exact tk_up z5
    have z3 : s3.2 = 0 := by rw [e4] at z4; exact tk_up z4
    have z2 : s2.2 = 0 := by rw [e3] at z3; exact tk_up z3
    have z1 : s1.2 = 0 := by rw [e2] at z2; exact tk_up z2
    have hn5 := n5 z1
    obtain ⟨a1, a2, a3⟩ := q3 hn5
    obtain ⟨b1, b2⟩ := q4 z3
    obtain ⟨c1, c2⟩ := q6 z4
    obtain ⟨d1, d2⟩ := q8 z5
    rw [one_m] at b1 c1 d1
    subst a2
    have r3 := a3
    have r5 : RWn J5 27 4 n (J2 27) (up1 (fun _ => nI 0) 0 y1) := by rw [q5 n a1 (by omega)]; exact (r3.cg (r23 f4)).put 0 y1
    have r7 : RWn J7 27 4 n (J2 27) (up1 (up1 (fun _ => nI 0) 0 y1) 1 y2) := by rw [q7 n a1 (by omega)]; exact (r5.cg (r23 f6)).put 1 y2
    have r9 : RWn J9 27 4 n (J2 27) (up1 (up1 (up1 (fun _ => nI 0) 0 y1) 1 y2) 2 y3) := by rw [q9 n a1 (by omega)]; exact (r7.cg (r23 f8)).put 2 y3
    have b2' : ∀ j, J2 27 j = I 27 j := fun j => F2 _ _ (by unfold naF; omega)
    refine ⟨hn5, ⟨T9.2.2.2.2.1, T9.2.2.2.2.2.1, T9.2.2.2.2.2.2.1, fun i hi => ?_⟩, lc3 d2 (up23 fz), ?_⟩
    · unfold upH
      by_cases ei : i = n
      · subst ei
        rw [r9.2 0 (by omega), r9.2 1 (by omega), r9.2 2 (by omega), r9.2 3 (by omega)]
        rw [up1_o (show ¬ 70 + i = 50 + i by omega), up1_o (show ¬ 70 + i = 40 + i by omega), up1_s, up1_o (show ¬ 40 + i = 50 + i by omega), up1_s, up1_s]
        refine ⟨?_, ?_, ?_, ?_⟩
        · exact b1
        · exact c1
        · exact d1.trans up1_s.symm
        · rfl
      · have hi' : i < n := by omega
        rw [r9.1 _ (by omega), r9.1 _ (by omega), r9.1 _ (by omega), r9.1 _ (by omega)]
        rw [up1_o (show ¬ 70 + i = 50 + n by omega), up1_o (show ¬ 70 + i = 40 + n by omega), up1_o (show ¬ 70 + i = 70 + n by omega), up1_o (show ¬ 40 + i = 50 + n by omega), up1_o (show ¬ 40 + i = 40 + n by omega), up1_o (show ¬ 40 + i = 70 + n by omega), up1_o (show ¬ 50 + i = 50 + n by omega), up1_o (show ¬ 50 + i = 40 + n by omega), up1_o (show ¬ 50 + i = 70 + n by omega)]
        simp only [b2']
        exact hD.2.2.2 i hi'
    · have nn := (q2 z2).2
      have gg : Fi (fun a j => a = 31 ∧ 4 ≤ j ∨ a = 26 ∨ a = 27) J2 J9 := ((((((f3.up fun _ _ z => by omega).tr (f4.up fun _ _ z => by unfold nuF at z; omega)).tr (f5.up fun _ _ z => by omega)).tr (f6.up fun _ _ z => by unfold nuF at z; omega)).tr (f7.up fun _ _ z => by omega)).tr (f8.up fun _ _ z => by unfold nuF at z; omega)).tr (fz.up fun _ _ z => by omega)
      exact ⟨(gg _ _ (by omega)).trans nn.1, nn.2⟩
/-- a - ahead of a number -/
def sgS (K : Nat → Int32) (s : mSt) : mSt := if s.2 = 0 ∧ K s.1 = nI 45 then tk K (nI 45) s else s
def sgN (K : Nat → Int32) (s : mSt) : Int32 := if s.2 = 0 ∧ K s.1 = nI 45 then -1 else nI 1
theorem s_signed (d : Nat) {S : mS} {I : mI} {L : mJ} {K V : Nat → Int32} (G : Gd S) (k : TKV I L K V) {s : mSt} (h : CSt I s) (x : Int32) : ∃ sg J, evk zcod none (d + 4) zc_X6_silkStatement 39 [(0, .ref 31), (1, .ref 24), (2, .int x)] [] (S, I, L) = evk zcod none (d + 4) zc_X6_silkStatement 59 [(0, .ref 31), (1, .ref 24), (2, .int x), (3, .int sg)] [] (S, J, L) ∧ Fi tkA I J ∧ CSt J (sgS K s) ∧ (s.2 = 0 → sg = sgN K s) := by
  rw [B_X6_silkStatement_39]
  by_cases q : s.2 = 0
  · have k31 := rd138 k (h.rd q)
    by_cases c : K s.1 = nI 45
    · obtain ⟨y, J, e, f, m⟩ := s_takeL (d + 1) (L := L) G k h (nI 45)
      have a1 : sgS K s = tk K (nI 45) s := if_pos ⟨q, c⟩
      have a2 : sgN K s = -1 := if_pos ⟨q, c⟩
      rw [a1, a2]
      refine ⟨-1, J, ?_, f, m, fun _ => rfl⟩
      simp only [gRd G, if_true, k31, c, not_true, if_false, e, bI_eq]
    · have a1 : sgS K s = s := if_neg fun z => c z.2
      have a2 : sgN K s = nI 1 := if_neg fun z => c z.2
      rw [a1, a2]
      refine ⟨nI 1, I, ?_, Fi.rf, h, fun _ => rfl⟩
      simp only [gRd G, if_true, k31, c, not_false_iff]
  · have a1 : sgS K s = s := if_neg fun z => q z.1
    rw [a1]
    by_cases c : I 31 5 = nI 45
    · refine ⟨-1, I, ?_, Fi.rf, h, fun z => absurd z q⟩
      simp only [gRd G, if_true, c, not_true, if_false, s_take_bad (d + 3) (L := L) G (h.ft q).n0 (nI 45), bI_eq]
    · refine ⟨nI 1, I, ?_, Fi.rf, h, fun z => absurd z q⟩
      simp only [gRd G, if_true, c, not_false_iff]
def upK (st : Nat → Int32) (n : Nat) (x p : Int32) : Nat → Int32 := up1 (up1 st (30 + n) x) (80 + n) p
theorem sg_up {K : Nat → Int32} {s : mSt} (h : (sgS K s).2 = 0) : s.2 = 0 := by
  unfold sgS at h
  by_cases c : s.2 = 0 ∧ K s.1 = nI 45
  · exact c.1
  · rw [if_neg c] at h
    exact h
theorem s_silkSt (d : Nat) {S : mS} {I : mI} {L : mJ} {K V : Nat → Int32} (G : Gd S) (k : TKV I L K V) (h32 : I 32 4 = nI 401) {t n : Nat} {st : Nat → Int32} (h : RD I t) (hD : DS I n st) (hn : n ≤ 5) {l : Nat × Nat} {nm : List Nat} (hl : LT I l) (hN : NMc I L nm) (hN2 : n < 5 → nm.length ≤ 16) {s1 s2 s3 s4 s5 : mSt} (e1 : s1 = fst1 K n 5 t) (e2 : s2 = tk K (nI 2) s1) (e3 : s3 = tk K (nI 3) s2) (e4 : s4 = sgS K s3) (e5 : s5 = tk K (nI 3) s4) : ∃ J L', evM zcod (d + 5) 55 [.ref 31] (S, I, L) = some (none, (S, J, L')) ∧ Fi slF I J ∧ (∀ a j, ¬ a = 38 → L' a j = L a j) ∧ CSt J s5 ∧ (s5.2 = 0 → n < 5 ∧ DS J (n + 1) (upK st n (V s2.1) (sgN K s3 * V s4.1)) ∧ LT J (nbl V (sgN K s3) (-3) (nI 3) s4 (nbl V (nI 1) (nI 1) (nI 9) s2 (nml (L 36) nm s1 l))) ∧ NMc J L' (nm ++ [s1.1])) := by
  have T0 := hD.tg G hn
  have n5 : s1.2 = 0 → n < 5 := fun z => by
    by_cases q : n < 5
    · exact q
    · rw [e1] at z
      unfold fst1 at z
      rw [if_neg q] at z
      exact absurd (show 2 = 0 from z) (by decide)
  obtain ⟨J1, w1, f1, m1⟩ := s_takeFirst d (L := L) G k h T0
  rw [← e1] at m1
  have F1 : Fi naF I J1 := f1.up fun _ _ z => ⟨z.1, by have := z.2; omega, by have := z.2; omega⟩
  have k1 := k.cg (f1.up fun _ _ => tkA_r)
  have h32' : J1 32 4 = nI 401 := (f1 _ _ (by unfold tkA; omega)).trans h32
  have hl1 : LT J1 l := hl.cg (f1 _ _ (by unfold tkA; omega)) (f1 _ _ (by unfold tkA; omega)) (fun t => f1 _ _ (by unfold tkA; omega))
  have hN1 : NMc J1 L nm := ⟨(f1 _ _ (by unfold tkA; omega)).trans hN.1, hN.2⟩
  obtain ⟨J2, L', w2, f2, lo, m2, q2⟩ := s_takeName d (L := L) G k1 h32' m1 (l := l) (nm := nm) (fun z => ⟨hl1, hN1, hN2 (n5 z)⟩)
  rw [← e2] at m2 q2
  have k2 : TKV J2 L' K V := (k1.st (f2.up fun _ _ => naF_st)).lg fun j => lo 36 j (by omega)
  have F2 := F1.tr f2
  have T2 : Tg S J2 24 25 5 4 n := T0.fi (F2 _ _ (by unfold naF; omega)) (F2 _ _ (by unfold naF; omega)) (F2 _ _ (by unfold naF; omega))
  obtain ⟨x, J3, n', w3, f3, T3, q3⟩ := s_addAny (d + 2) (L := L') T2 (by omega)
  have up3 : ∀ {I J : mI} {s : mSt}, CSt I s → Fi (fun a j => a = 24 ∧ j = 3 ∨ a = 25) I J → CSt J s := fun h f => h.fi (fun j => f _ _ (by omega)) (fun j => f _ _ (by omega)) (fun j => f _ _ (by omega)) (f _ _ (by omega))
  have kp3 : ∀ {I J : mI}, TKV I L' K V → Fi (fun a j => a = 24 ∧ j = 3 ∨ a = 25) I J → TKV J L' K V := fun h f => ⟨(f.row 34 fun j => by omega).trans h.1, h.2⟩
  have m3 := up3 m2 f3
  have k3 := kp3 k2 f3
  have h32c : ∀ {J : mI}, Fi slF I J → J 32 4 = nI 401 := fun f => (f _ _ (by unfold slF naF; omega)).trans h32
  have F3 : Fi slF I J3 := (F2.up fun _ _ => Or.inl).tr (f3.up fun _ _ => Or.inr)
  have lc3 : ∀ {I J : mI} {l : Nat × Nat}, LT I l → Fi (fun a j => a = 24 ∧ j = 3 ∨ a = 25) I J → LT J l := fun h f => h.cg (f _ _ (by omega)) (f _ _ (by omega)) (fun t => f _ _ (by omega))
  have nuL : ∀ {I J : mI}, Fi nuF I J → Fi slF I J := fun f => f.up fun _ _ z => Or.inl ⟨z.1, by have := z.2; omega, by have := z.2; omega⟩
  have up23 : ∀ {I J : mI}, Fi (fun a _ => a = 25) I J → Fi (fun a j => a = 24 ∧ j = 3 ∨ a = 25) I J := fun f => f.up fun _ _ z => Or.inr z
  have tgn : ∀ {I J : mI} {n' : Nat}, Tg S I 24 25 5 4 n' → Fi nuF I J → Tg S J 24 25 5 4 n' := fun h f => h.fi (f _ _ (by unfold nuF; omega)) (f _ _ (by unfold nuF; omega)) (f _ _ (by unfold nuF; omega))
  have r23 : ∀ {I J : mI}, Fi nuF I J → ∀ j, J 25 j = I 25 j := fun f j => f _ _ (by unfold nuF; omega)
  obtain ⟨y1, J4, w4, f4, m4, q4⟩ := s_takeNumber d (L := L') G k3 (h32c F3) m3 (nI 1) (nI 1) (nI 9) (l := nml (L 36) nm s1 l) (fun z => by
    have h2 : (tk K (nI 2) s1).2 = 0 := by rw [← e2]; exact z
    exact lc3 (q2 z).1 f3)
  rw [← e3] at m4 q4
  have F4 := F3.tr (nuL f4)
  have k4 : TKV J4 L' K V := k3.st (f4.up fun _ _ => nuF_st)
  obtain ⟨J5, w5, f5, T5, q5⟩ := s_putAny (d + 3) (L := L') (tgn T3 f4) (by omega) x (b := 0) (by omega) y1
  have F5 : Fi slF I J5 := F4.tr (f5.up fun _ _ z => Or.inr (Or.inr z))
  have k5 := kp3 k4 (up23 f5)
  obtain ⟨sg, J6, w6, f6, m6, q6⟩ := s_signed d (L := L') G k5 (up3 m4 (up23 f5)) x
  rw [← e4] at m6
  have F6 := F5.tr (nuL (f6.up fun _ _ => tkA_nu))
  have k6 : TKV J6 L' K V := k5.st ((f6.up fun _ _ => tkA_nu).up fun _ _ => nuF_st)
  obtain ⟨y3, J8, w8, f8, m8, q8⟩ := s_takeNumber d (L := L') G k6 (h32c F6) m6 sg (-3) (nI 3) (l := nbl V (nI 1) (nI 1) (nI 9) s2 (nml (L 36) nm s1 l)) (fun z => by
    have z3 : s3.2 = 0 := by rw [e4] at z; exact sg_up z
    exact (lc3 (q4 z3).2 (up23 f5)).cg (f6 _ _ (by unfold tkA; omega)) (f6 _ _ (by unfold tkA; omega)) (fun t => f6 _ _ (by unfold tkA; omega)))
  rw [← e5] at m8 q8
  have F8 := F6.tr (nuL f8)
  have T6 := tgn T5 (f6.up fun _ _ => tkA_nu)
  obtain ⟨J9, w9, f9, T9, q9⟩ := s_putAny (d + 3) (L := L') (tgn T6 f8) (by omega) x (b := 3) (by omega) y3
  obtain ⟨J12, w12, f12, T12, q12⟩ := s_putAny (d + 3) (L := L') T9 (by omega) x (b := 1) (by omega) (-2)
  have fz : Fi (fun a _ => a = 25) J8 J12 := f9.tr f12
  refine ⟨J12, L', ?_, F8.tr (fz.up fun _ _ z => Or.inr (Or.inr z)), lo, up3 m8 (up23 fz), fun z5 => ?_⟩
  · rw [E_X6_silkStatement, B_X6_silkStatement_0]
    simp only [gRd G, gTop G, g21 G, if_true, w1, bV_eq, w2, w3, bI_eq, w4, w5]
    refine w6.trans ?_
    rw [B_X6_silkStatement_59]
    simp only [gRd G, g21 G, if_true, bI_eq, bV_eq, w8, w9, w12]
  · have z4 : s4.2 = 0 := by rw [e5] at z5; exact tk_up z5
    have z3 : s3.2 = 0 := by rw [e4] at z4; exact sg_up z4
    have z2 : s2.2 = 0 := by rw [e3] at z3; exact tk_up z3
    have z1 : s1.2 = 0 := by rw [e2] at z2; exact tk_up z2
    have hn5 := n5 z1
    obtain ⟨a1, a2, a3⟩ := q3 hn5
    obtain ⟨b1, b2⟩ := q4 z3
    have c1 := q6 z3
    obtain ⟨d1, d2⟩ := q8 z5
    rw [one_m] at b1
    rw [c1] at d1 d2
    subst a2
    have r3 := a3
    have r5 : RWn J5 25 4 n (J2 25) (up1 (fun _ => nI 0) 0 y1) := by rw [q5 n a1 (by omega)]; exact (r3.cg (r23 f4)).put 0 y1
    have r9 : RWn J9 25 4 n (J2 25) (up1 (up1 (fun _ => nI 0) 0 y1) 3 y3) := by rw [q9 n a1 (by omega)]; exact ((r5.cg (r23 (f6.up fun _ _ => tkA_nu))).cg (r23 f8)).put 3 y3
    have r12 : RWn J12 25 4 n (J2 25) (up1 (up1 (up1 (fun _ => nI 0) 0 y1) 3 y3) 1 (-2)) := by rw [q12 n a1 (by omega)]; exact r9.put 1 (-2)
    have b2' : ∀ j, J2 25 j = I 25 j := fun j => F2 _ _ (by unfold naF; omega)
    refine ⟨hn5, ⟨T12.2.2.2.2.1, T12.2.2.2.2.2.1, T12.2.2.2.2.2.2.1, fun i hi => ?_⟩, lc3 d2 (up23 fz), ?_⟩
    · unfold upK
      by_cases ei : i = n
      · subst ei
        rw [r12.2 0 (by omega), r12.2 1 (by omega), r12.2 2 (by omega), r12.2 3 (by omega)]
        rw [up1_o (show ¬ 30 + i = 80 + i by omega), up1_s, up1_s]
        refine ⟨?_, ?_, ?_, ?_⟩
        · exact b1
        · rfl
        · rfl
        · exact d1.trans up1_s.symm
      · have hi' : i < n := by omega
        rw [r12.1 _ (by omega), r12.1 _ (by omega), r12.1 _ (by omega), r12.1 _ (by omega)]
        rw [up1_o (show ¬ 30 + i = 80 + n by omega), up1_o (show ¬ 30 + i = 30 + n by omega), up1_o (show ¬ 80 + i = 80 + n by omega), up1_o (show ¬ 80 + i = 30 + n by omega)]
        simp only [b2']
        exact hD.2.2.2 i hi'
    · have nn := (q2 z2).2
      have gg : Fi (fun a j => a = 31 ∧ 4 ≤ j ∨ a = 24 ∨ a = 25) J2 J12 := (((((f3.up fun _ _ z => by omega).tr (f4.up fun _ _ z => by unfold nuF at z; omega)).tr (f5.up fun _ _ z => by omega)).tr (f6.up fun _ _ z => by unfold tkA at z; omega)).tr (f8.up fun _ _ z => by unfold nuF at z; omega)).tr (fz.up fun _ _ z => by omega)
      exact ⟨(gg _ _ (by omega)).trans nn.1, nn.2⟩
