/-! statements, reference side: silks, numbers alone -/
theorem neg1_m (x : Int32) : (-1 : Int32) * x = -x := by
  rw [show (-1 : Int32) = -(nI 1) from by decide +kernel, Int32.neg_mul, one_m]
theorem neg_i {x : Int32} (h : nI 0 ≤ x) : (-x).toInt = -x.toInt := by
  have b := i_bd x
  rw [i_le, t_nI (by omega)] at h
  rw [Int32.toInt_neg, Int.bmod_eq_of_le (by omega) (by omega)]
theorem nbl_sg {V : Nat → Int32} {K : Nat → Int32} {s3 s : mSt} (l : Nat × Nat) (h : nI 0 ≤ V s.1) : nbl V (sgN K s3) (-3) (nI 3) s l = nbl V (nI 1) (nI 0) (nI 3) s l := by
  have t3 : (-3 : Int32).toInt = -3 := by decide +kernel
  have h' := h
  rw [i_le, t_nI (by omega)] at h'
  have e : (-3 ≤ sgN K s3 * V s.1 ∧ sgN K s3 * V s.1 ≤ nI 3) ↔ (nI 0 ≤ nI 1 * V s.1 ∧ nI 1 * V s.1 ≤ nI 3) := by
    rw [one_m]
    unfold sgN
    by_cases c : s3.2 = 0 ∧ K s3.1 = nI 45
    · rw [if_pos c, neg1_m]
      simp only [i_le, neg_i h, t3, t_nI (show 0 < 2147483648 by omega), t_nI (show 3 < 2147483648 by omega)]
      omega
    · rw [if_neg c, one_m]
      simp only [i_le, t3, t_nI (show 0 < 2147483648 by omega), t_nI (show 3 < 2147483648 by omega)]
      omega
  unfold nbl
  by_cases c : nI 0 ≤ nI 1 * V s.1 ∧ nI 1 * V s.1 ≤ nI 3
  · rw [if_pos c, if_pos (e.mpr c)]
  · rw [if_neg c, if_neg (fun z => c (e.mp z))]
theorem k_minus : (45 ∈ kKs ∧ gkN 45 = 9 ∧ ¬ nI 45 = nI 0) := by decide +kernel
theorem m_signed (d : Nat) {S : mS} {I : mI} {L : mJ} {K V P : Nat → Int32} (G : Gd S) (k : TKM I K V P) {s : mSt} (h : MSt I K P s) (kk y : Int32) : ∃ b J, (if ¬ I 384 13 = nI 0 then evk zcod none (d + 4) zc_X12_tellSilk 55 [(0, .ref 384), (1, .int kk), (2, .int y)] [] (S, I, L) else bI (evM zcod (d + 4) 167 [.ref 384, .int (nI 9)] (S, I, L)) fun x3 M3 => if M3.1.1 = S.1 then (if x3 = nI 0 then evk zcod none (d + 4) zc_X12_tellSilk 55 [(0, .ref 384), (1, .int kk), (2, .int y)] [] M3 else evk zcod none (d + 4) zc_X12_tellSilk 51 [(0, .ref 384), (1, .int kk), (2, .int y)] [] M3) else none) = evk zcod none (d + 4) zc_X12_tellSilk 65 [(0, .ref 384), (1, .int kk), (2, .int y), (3, .int b)] [] (S, J, L) ∧ Fi tkF I J ∧ MSt J K P (sgS K s) ∧ (s.2 = 0 → b = if K s.1 = nI 45 then nI 1 else nI 0) := by
  have e55 : evk zcod none (d + 4) zc_X12_tellSilk 55 [(0, .ref 384), (1, .int kk), (2, .int y)] [] (S, I, L) = evk zcod none (d + 4) zc_X12_tellSilk 65 [(0, .ref 384), (1, .int kk), (2, .int y), (3, .int (nI 0))] [] (S, I, L) := by
    rw [B_X12_tellSilk_55, B_X12_tellSilk_56, if_pos rfl]
  by_cases q : s.2 = 0
  · obtain ⟨hm, ho⟩ := h.ms q
    have es : s = (s.1, 0) := by rw [← q]
    have ki := m_is (d + 3) (L := L) G k hm 45 k_minus.1 k_minus.2.1
    rw [if_neg (fun z => z hm.2.2.1)]
    simp only [ki, bI_eq, if_true]
    by_cases c : K s.1 = nI 45
    · have a1 : sgS K s = tk K (nI 45) s := if_pos ⟨q, c⟩
      obtain ⟨J, e, f, m⟩ := m_goL (d + 2) (L := L) G k (by rw [← es]; exact h) c k_minus.2.2
      refine ⟨nI 1, J, ?_, f, by rw [a1, es]; exact m, fun _ => by rw [if_pos c]⟩
      rw [if_pos c, if_neg z10, B_X12_tellSilk_51, B_X12_tellSilk_56, if_neg z10]
      simp only [gM G, if_true, e, bV_eq]
    · have a1 : sgS K s = s := if_neg fun z => c z.2
      refine ⟨nI 0, I, ?_, Fi.rf, by rw [a1]; exact h, fun _ => by rw [if_neg c]⟩
      rw [if_neg c, if_pos rfl, e55]
  · have a1 : sgS K s = s := if_neg fun z => q z.1
    refine ⟨nI 0, I, ?_, Fi.rf, by rw [a1]; exact h, fun z => absurd z q⟩
    rw [if_pos (h.mf q).n0, e55]
theorem m_tellSilk (d : Nat) {S : mS} {I : mI} {L : mJ} {K V P : Nat → Int32} {N : Nat → Int64} (G : Gd S) (k : TKM I K V P) (o : PO K P) (nr : NR K N L) {v n : Nat} (hv : v < 2) (h19 : I 384 19 = nI v) (hn : n < 5) (h93 : I 397 v = nI n) {s1 s2 s3 s4 s5 : mSt} (h : MSt I K P s1) (z1 : s1.2 = 0) {l : Nat × Nat} {nm : List Nat} (hl : LM I P l ∧ LTk l s1.1 ∧ NMm I L nm ∧ nm.length ≤ 16 ∧ ∀ i, i ∈ nm → i < s1.1 ∧ K i = nI 2) (e2 : s2 = tk K (nI 2) s1) (e3 : s3 = tk K (nI 3) s2) (e4 : s4 = sgS K s3) (e5 : s5 = tk K (nI 3) s4) : ∃ J L', evM zcod (d + 5) 182 [.ref 384] (S, I, L) = some (none, (S, J, L')) ∧ Fi (slM v n) I J ∧ (∀ a j, ¬ a = 392 → L' a j = L a j) ∧ MSt J K P (tk K (nI 59) s5) ∧ ((tk K (nI 59) s5).2 = 0 → J 397 v = nI (n + 1) ∧ J 398 (5 * v + n) = V s2.1 ∧ J 399 (5 * v + n) = sgN K s3 * V s4.1 ∧ LM J P (nbl V (sgN K s3) (-3) (nI 3) s4 (nbl V (nI 1) (nI 1) (nI 9) s2 (nml N nm s1 l))) ∧ NMm J L' (nm ++ [s1.1])) := by
  obtain ⟨hl1, hl2, hl3, hl4, hl5⟩ := hl
  have kv := s5v v hv n hn
  have xv : zin (nI v) 2 = True := ixT hv (by omega)
  have xvi : zix (nI v) = v := ixI (by omega)
  have xk : zin (nI (5 * v + n)) 10 = True := ixT (by omega) (by omega)
  have xki : zix (nI (5 * v + n)) = 5 * v + n := ixI (by omega)
  obtain ⟨y, J1, w1, f1, m1, q1⟩ := m_named (d + 0) (L := L) G k o nr h (l := l) (nm := nm) (fun _ => ⟨hl1, hl2, hl3, hl4, hl5⟩)
  rw [← e2] at m1 q1
  have k1 := bd_tk k f1
  have t2 : s2.2 = 0 → s2.1 = s1.1 + 1 := fun z => by rw [e2] at z ⊢; exact (tk_le z).2.2.1
  have t3 : s3.2 = 0 → s2.2 = 0 ∧ s3.1 = s2.1 + 1 := fun z => by rw [e3] at z ⊢; exact ⟨(tk_le z).1, (tk_le z).2.2.1⟩
  have t4 : s4.2 = 0 → s3.2 = 0 ∧ s3.1 ≤ s4.1 := fun z => by rw [e4] at z ⊢; exact sgS_le z
  have t5 : s5.2 = 0 → s4.2 = 0 ∧ s5.1 = s4.1 + 1 ∧ K s4.1 = nI 3 := fun z => by rw [e5] at z ⊢; exact ⟨(tk_le z).1, (tk_le z).2.2.1, (tk_le z).2.1⟩
  have lA : s2.2 = 0 → LTk (nml N nm s1 l) s2.1 := fun z => (hl2.up (by have := t2 z; omega)).nm (by have := t2 z; omega)
  have lB : s4.2 = 0 → LTk (nbl V (nI 1) (nI 1) (nI 9) s2 (nml N nm s1 l)) s4.1 := fun z => by
    obtain ⟨a, b⟩ := t4 z
    obtain ⟨a', b'⟩ := t3 a
    exact ((lA a').up (by omega)).nb (by omega)
  obtain ⟨y1, J2, w2, f2, m2, q2⟩ := m_boundedL (d + 0) (L := L) G k1 o m1 (nI 1) (nI 9) (l := nml N nm s1 l) (fun z => ⟨(q1 z).2, lA z⟩)
  rw [← e3] at m2 q2
  let I2 := uI J2 398 (5 * v + n) y1
  have g2 : ∀ j, I2 384 j = J2 384 j := fun j => uI_off (by omega)
  have F2 : Fi (slM v n) I I2 := ((f1.tr f2).up fun _ _ z => Or.inl (bdF_en z)).tr (Fi.u Fi.rf (Or.inr (Or.inr ⟨by omega, by omega, rfl⟩)))
  have k2 : TKM I2 K V P := k.fi F2 fun a x y j => by unfold slM enF; omega
  obtain ⟨b, J3, w3, f3, m3, q3⟩ := m_signed d (L := L) G k2 (m2.of g2) (nI (5 * v + n)) y
  rw [← e4] at m3
  have F3 : Fi (slM v n) I J3 := F2.tr (f3.up fun _ _ z => Or.inl (bdF_en (tkF_bd z)))
  have k3 : TKM J3 K V P := k.fi F3 fun a x y j => by unfold slM enF; omega
  obtain ⟨y3, J4, w4, f4, m4, q4⟩ := m_boundedL (d + 0) (L := L) G k3 o m3 (nI 0) (nI 3) (l := nbl V (nI 1) (nI 1) (nI 9) s2 (nml N nm s1 l)) (fun z => by
    have z3 := (t4 z).1
    exact ⟨((q2 z3).2.cg (g2 _) (g2 _)).cg (f3 _ _ (by unfold tkF; omega)) (f3 _ _ (by unfold tkF; omega)), lB z⟩)
  rw [← e5] at m4 q4
  have F4' : Fi (slM v n) I J4 := F3.tr (f4.up fun _ _ z => Or.inl (bdF_en z))
  have key : ∃ x, (s5.2 = 0 → x = sgN K s3 * V s4.1) ∧ evk zcod none (d + 4) zc_X12_tellSilk 65 [(0, .ref 384), (1, .int (nI (5 * v + n))), (2, .int y), (3, .int b)] [] (S, J3, L) = evk zcod none (d + 4) zc_X12_tellSilk 90 [(0, .ref 384), (2, .int y)] [.int x, .int (nI (5 * v + n)), .ref 399] (S, J4, L) := by
    rw [B_X12_tellSilk_65]
    simp only [gM G, if_true, w4, bI_eq]
    by_cases c : b = nI 0
    · rw [if_pos c, B_X12_tellSilk_88]
      refine ⟨y3, fun z => ?_, rfl⟩
      have z3 := (t4 (t5 z).1).1
      have hb := q3 z3
      have nk : ¬ K s3.1 = nI 45 := fun w => by
        rw [if_pos w, c] at hb
        exact absurd hb (by decide +kernel)
      have a2 : sgN K s3 = nI 1 := if_neg fun z => nk z.2
      rw [a2, one_m]
      exact (q4 z).1
    · rw [if_neg c]
      refine ⟨-y3, fun z => ?_, rfl⟩
      have z3 := (t4 (t5 z).1).1
      have hb := q3 z3
      have nk : K s3.1 = nI 45 := by
        by_cases w : K s3.1 = nI 45
        · exact w
        · rw [if_neg w] at hb
          exact absurd hb c
      have a2 : sgN K s3 = -1 := if_pos ⟨z3, nk⟩
      rw [a2, neg1_m, (q4 z).1]
  obtain ⟨x, hx, w65⟩ := key
  let I4 := uI J4 399 (5 * v + n) x
  have g4 : ∀ j, I4 384 j = J4 384 j := fun j => uI_off (by omega)
  have F4 : Fi (slM v n) I I4 := F4'.tr (Fi.u Fi.rf (Or.inr (Or.inr ⟨by omega, by omega, rfl⟩)))
  have k4 : TKM I4 K V P := k.fi F4 fun a x y j => by unfold slM enF; omega
  have n20 : I4 384 20 = I 384 20 := by
    rw [g4, f4 _ _ (by unfold bdF; omega), f3 _ _ (by unfold tkF; omega), g2, f2 _ _ (by unfold bdF; omega), f1 _ _ (by unfold bdF; omega)]
  obtain ⟨J5, L', w5, f5, lo, m5, q5⟩ := m_ends (d + 0) (L := L) G k4 (m4.of g4) (nm := nm) y (t := s1.1) (fun z => by
    have z4 := (t5 z).1
    have z3 := (t4 z4).1
    have z2 := (t3 z3).1
    exact ⟨(q1 z2).1, (h.ms z1).1.1, ⟨n20.trans hl3.1, hl3.2⟩, hl4⟩)
  have F5 : Fi (slM v n) I J5 := F4.tr (f5.up fun _ _ z => Or.inl (esF_en z))
  have h19' : ∀ {J : mI}, Fi (slM v n) I J → J 384 19 = nI v := fun f => (f _ _ (by unfold slM enF; omega)).trans h19
  have a93 : J5 397 v = nI n := by
    rw [f5 _ _ (by unfold esF; omega)]
    show uI J4 399 (5 * v + n) x 397 v = _
    rw [uI_off (by omega), f4 _ _ (by unfold bdF; omega), f3 _ _ (by unfold tkF; omega)]
    show uI J2 398 (5 * v + n) y1 397 v = _
    rw [uI_off (by omega), f2 _ _ (by unfold bdF; omega), f1 _ _ (by unfold bdF; omega), h93]
  have walk : evM zcod (d + 5) 182 [.ref 384] (S, I, L) = if ¬ J5 384 13 = nI 0 then some (none, (S, J5, L')) else some (none, (S, uI J5 397 v (nI (n + 1)), L')) := by
    have w5' : evM zcod (d + 4) 179 [.ref 384, .int y] (S, uI J4 399 (5 * v + n) x, L) = some (none, (S, J5, L')) := w5
    have w90 : evk zcod none (d + 4) zc_X12_tellSilk 90 [(0, .ref 384), (2, .int y)] [.int x, .int (nI (5 * v + n)), .ref 399] (S, J4, L) = if ¬ J5 384 13 = nI 0 then some (none, (S, J5, L')) else some (none, (S, uI J5 397 v (nI (n + 1)), L')) := by
      rw [B_X12_tellSilk_90]
      simp only [gM G, if_true, true_and, xk, xki, w5', bV_eq, h19' F5, xv, xvi, a93, nI_add, B_X12_tellSilk_116]
    rw [E_X12_tellSilk, B_X12_tellSilk_0]
    simp only [gM G, if_true, true_and, h19, xv, xvi, h93, kv, w1, bI_eq, w2, xk, xki]
    refine Eq.trans ?_ (w3.trans (w65.trans w90))
    rfl
  by_cases z6 : (tk K (nI 59) s5).2 = 0
  · obtain ⟨hm, ho⟩ := m5.ms z6
    have z5 := (tk_le z6).1
    have z4 := (t5 z5).1
    have z3 := (t4 z4).1
    have z2 := (t3 z3).1
    let J6 := uI J5 397 v (nI (n + 1))
    have g6 : ∀ j, J6 384 j = J5 384 j := fun j => uI_off (by omega)
    refine ⟨J6, L', by rw [walk, if_neg (fun q => q hm.2.2.1)], F5.tr (Fi.u Fi.rf (Or.inr (Or.inl ⟨rfl, rfl⟩))), lo, m5.of g6, fun _ => ⟨uI_same _ _ _ _, ?_, ?_, ?_, ?_⟩⟩
    · show uI J5 397 v (nI (n + 1)) 398 (5 * v + n) = _
      rw [uI_off (by omega), f5 _ _ (by unfold esF; omega)]
      show uI J4 399 (5 * v + n) x 398 (5 * v + n) = _
      rw [uI_off (by omega), f4 _ _ (by unfold bdF; omega), f3 _ _ (by unfold tkF; omega)]
      exact (uI_same _ _ _ _).trans (q2 z3).1
    · show uI J5 397 v (nI (n + 1)) 399 (5 * v + n) = _
      rw [uI_off (by omega), f5 _ _ (by unfold esF; omega)]
      exact (uI_same _ _ _ _).trans (hx z5)
    · rw [nbl_sg _ (k.2.2 _ (t5 z5).2.2)]
      have lm := (q4 z5).2
      have ff : ∀ j, j = 15 ∨ j = 16 → J6 384 j = J4 384 j := by
        intro j hj
        rw [g6, f5 _ _ (by unfold esF; omega)]
        exact g4 j
      exact lm.cg (ff 15 (Or.inl rfl)) (ff 16 (Or.inr rfl))
    · have nn := q5 z6
      exact ⟨(g6 20).trans nn.1, nn.2⟩
  · have hf := m5.mf z6
    exact ⟨J5, L', by rw [walk, if_pos hf.n0], F5, lo, m5, fun w => absurd w z6⟩
theorem m_toldInt (d : Nat) {S : mS} {I : mI} {L : mJ} {K V P : Nat → Int32} (G : Gd S) (k : TKM I K V P) (o : PO K P) {t : Nat} (h : MSt I K P (t, 0)) (h0 : ¬ K t = nI 0) (lo hi : Int32) {l : Nat × Nat} (hl : LM I P l ∧ LTk l t) : ∃ y J, evM zcod (d + 5) 176 [.ref 384, .int lo, .int hi] (S, I, L) = some (some (.int y), (S, J, L)) ∧ Fi bdF I J ∧ MSt J K P (tk K (nI 59) (tk K (nI 3) (tk K (K t) (t, 0)))) ∧ ((tk K (nI 59) (tk K (nI 3) (tk K (K t) (t, 0)))).2 = 0 → y = V (tk K (K t) (t, 0)).1 ∧ LM J P (nbl V (nI 1) lo hi (tk K (K t) (t, 0)) l)) := by
  obtain ⟨J1, e1, f1, m1⟩ := m_goL (d + 2) (L := L) G k h rfl h0
  obtain ⟨y, J2, e2, f2, m2, q2⟩ := m_boundedL (d + 0) (L := L) G (bd_tk k (f1.up fun _ _ => tkF_bd)) o m1 lo hi (l := l) (fun z => ⟨hl.1.cg (f1 _ _ (by unfold tkF; omega)) (f1 _ _ (by unfold tkF; omega)), hl.2.up (by
    have := (tk_le z).2.2.1
    have g : (tk K (K t) (t, 0)).1 = t + 1 := this
    omega)⟩)
  obtain ⟨J3, e3, f3, m3⟩ := m_mustL (d + 1) (L := L) G (bd_tk k ((f1.up fun _ _ => tkF_bd).tr f2)) m2 59 4 k_semi.1 k_semi.2.2 k_semi.2.1
  refine ⟨y, J3, ?_, ((f1.up fun _ _ => tkF_bd).tr f2).tr (f3.up fun _ _ => tkF_bd), m3, fun z => ?_⟩
  · rw [E_X12_toldInt, B_X12_toldInt_0]
    simp only [gM G, if_true, e1, bV_eq, e2, bI_eq, e3]
  · obtain ⟨a, b⟩ := q2 (tk_le z).1
    exact ⟨a, b.cg (f3 _ _ (by unfold tkF; omega)) (f3 _ _ (by unfold tkF; omega))⟩
