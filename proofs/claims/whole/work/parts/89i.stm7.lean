/-! statements, reference side: loads, silks, hooks -/
theorem s7v : ∀ v, v < 2 → ∀ n, n < 7 → nI 7 * nI v + nI n = nI (7 * v + n) := by decide +kernel
theorem s5v : ∀ v, v < 2 → ∀ n, n < 5 → nI 5 * nI v + nI n = nI (5 * v + n) := by decide +kernel
theorem s4v : ∀ v, v < 2 → ∀ n, n < 4 → nI 4 * nI v + nI n = nI (4 * v + n) := by decide +kernel
def ldM (v n a j : Nat) : Prop := enF a j ∨ a = 393 ∧ j = v ∨ 394 ≤ a ∧ a ≤ 396 ∧ j = 7 * v + n
def slM (v n a j : Nat) : Prop := enF a j ∨ a = 397 ∧ j = v ∨ 398 ≤ a ∧ a ≤ 399 ∧ j = 5 * v + n
def hkM (v n a j : Nat) : Prop := enF a j ∨ a = 400 ∧ j = v ∨ 401 ≤ a ∧ a ≤ 403 ∧ j = 5 * v + n
theorem MSt.of {I J : mI} {K P : Nat → Int32} {s : mSt} (h : MSt I K P s) (e : ∀ j, J 384 j = I 384 j) : MSt J K P s := h.cg fun j _ _ => e j
theorem m_tellLoad (d : Nat) {S : mS} {I : mI} {L : mJ} {K V P : Nat → Int32} {N : Nat → Int64} (G : Gd S) (k : TKM I K V P) (o : PO K P) (nr : NR K N L) {v n : Nat} (hv : v < 2) (h19 : I 384 19 = nI v) (hn : n < 7) (h93 : I 393 v = nI n) {s1 s2 s3 s4 s5 : mSt} (h : MSt I K P s1) (z1 : s1.2 = 0) {l : Nat × Nat} {nm : List Nat} (hl : LM I P l ∧ LTk l s1.1 ∧ NMm I L nm ∧ nm.length ≤ 16 ∧ ∀ i, i ∈ nm → i < s1.1 ∧ K i = nI 2) (e2 : s2 = tk K (nI 2) s1) (e3 : s3 = tk K (nI 3) s2) (e4 : s4 = tk K (nI 3) s3) (e5 : s5 = tk K (nI 3) s4) : ∃ J L', evM zcod (d + 5) 181 [.ref 384] (S, I, L) = some (none, (S, J, L')) ∧ Fi (ldM v n) I J ∧ (∀ a j, ¬ a = 392 → L' a j = L a j) ∧ MSt J K P (tk K (nI 59) s5) ∧ ((tk K (nI 59) s5).2 = 0 → J 393 v = nI (n + 1) ∧ J 394 (7 * v + n) = V s2.1 ∧ J 395 (7 * v + n) = V s3.1 ∧ J 396 (7 * v + n) = V s4.1 ∧ LM J P (nbl V (nI 1) (nI 0) (nI 99) s4 (nbl V (nI 1) (nI 1) (nI 9) s3 (nbl V (nI 1) (nI 0) (nI 19) s2 (nml N nm s1 l)))) ∧ NMm J L' (nm ++ [s1.1])) := by
  obtain ⟨hl1, hl2, hl3, hl4, hl5⟩ := hl
  have kv := s7v v hv n hn
  have xv : zin (nI v) 2 = True := ixT hv (by omega)
  have xvi : zix (nI v) = v := ixI (by omega)
  have xk : zin (nI (7 * v + n)) 14 = True := ixT (by omega) (by omega)
  have xki : zix (nI (7 * v + n)) = 7 * v + n := ixI (by omega)
  obtain ⟨y, J1, w1, f1, m1, q1⟩ := m_named (d + 0) (L := L) G k o nr h (l := l) (nm := nm) (fun _ => ⟨hl1, hl2, hl3, hl4, hl5⟩)
  rw [← e2] at m1 q1
  have k1 := bd_tk k f1
  have t2 : s2.2 = 0 → s2.1 = s1.1 + 1 := fun z => by rw [e2] at z ⊢; exact (tk_le z).2.2.1
  have t3 : s3.2 = 0 → s2.2 = 0 ∧ s3.1 = s2.1 + 1 := fun z => by rw [e3] at z ⊢; exact ⟨(tk_le z).1, (tk_le z).2.2.1⟩
  have t4 : s4.2 = 0 → s3.2 = 0 ∧ s4.1 = s3.1 + 1 := fun z => by rw [e4] at z ⊢; exact ⟨(tk_le z).1, (tk_le z).2.2.1⟩
  have t5 : s5.2 = 0 → s4.2 = 0 ∧ s5.1 = s4.1 + 1 := fun z => by rw [e5] at z ⊢; exact ⟨(tk_le z).1, (tk_le z).2.2.1⟩
  have lA : s2.2 = 0 → LTk (nml N nm s1 l) s2.1 := fun z => (hl2.up (by have := t2 z; omega)).nm (by have := t2 z; omega)
  have lB : s3.2 = 0 → LTk (nbl V (nI 1) (nI 0) (nI 19) s2 (nml N nm s1 l)) s3.1 := fun z => by
    obtain ⟨a, b⟩ := t3 z
    exact ((lA a).up (by omega)).nb (by omega)
  have lC : s4.2 = 0 → LTk (nbl V (nI 1) (nI 1) (nI 9) s3 (nbl V (nI 1) (nI 0) (nI 19) s2 (nml N nm s1 l))) s4.1 := fun z => by
    obtain ⟨a, b⟩ := t4 z
    exact ((lB a).up (by omega)).nb (by omega)
  obtain ⟨y1, J2, w2, f2, m2, q2⟩ := m_boundedL (d + 0) (L := L) G k1 o m1 (nI 0) (nI 19) (l := nml N nm s1 l) (fun z => ⟨(q1 z).2, lA z⟩)
  rw [← e3] at m2 q2
  let I2 := uI J2 394 (7 * v + n) y1
  have g2 : ∀ j, I2 384 j = J2 384 j := fun j => uI_off (by omega)
  have F2 : Fi (ldM v n) I I2 := ((f1.tr f2).up fun _ _ z => Or.inl (bdF_en z)).tr (Fi.u Fi.rf (Or.inr (Or.inr ⟨by omega, by omega, rfl⟩)))
  have k2 : TKM I2 K V P := k.fi F2 fun a x y j => by unfold ldM enF; omega
  obtain ⟨y2, J3, w3, f3, m3, q3⟩ := m_boundedL (d + 0) (L := L) G k2 o (m2.of g2) (nI 1) (nI 9) (l := nbl V (nI 1) (nI 0) (nI 19) s2 (nml N nm s1 l)) (fun z => ⟨(q2 z).2.cg (g2 _) (g2 _), lB z⟩)
  rw [← e4] at m3 q3
  let I3 := uI J3 395 (7 * v + n) y2
  have g3 : ∀ j, I3 384 j = J3 384 j := fun j => uI_off (by omega)
  have F3 : Fi (ldM v n) I I3 := F2.tr ((f3.up fun _ _ z => Or.inl (bdF_en z)).tr (Fi.u Fi.rf (Or.inr (Or.inr ⟨by omega, by omega, rfl⟩))))
  have k3 : TKM I3 K V P := k.fi F3 fun a x y j => by unfold ldM enF; omega
  obtain ⟨y3, J4, w4, f4, m4, q4⟩ := m_boundedL (d + 0) (L := L) G k3 o (m3.of g3) (nI 0) (nI 99) (l := nbl V (nI 1) (nI 1) (nI 9) s3 (nbl V (nI 1) (nI 0) (nI 19) s2 (nml N nm s1 l))) (fun z => ⟨(q3 z).2.cg (g3 _) (g3 _), lC z⟩)
  rw [← e5] at m4 q4
  let I4 := uI J4 396 (7 * v + n) y3
  have g4 : ∀ j, I4 384 j = J4 384 j := fun j => uI_off (by omega)
  have F4' : Fi (ldM v n) I J4 := F3.tr (f4.up fun _ _ z => Or.inl (bdF_en z))
  have F4 : Fi (ldM v n) I I4 := F4'.tr (Fi.u Fi.rf (Or.inr (Or.inr ⟨by omega, by omega, rfl⟩)))
  have k4 : TKM I4 K V P := k.fi F4 fun a x y j => by unfold ldM enF; omega
  have n20 : I4 384 20 = I 384 20 := by
    rw [g4, f4 _ _ (by unfold bdF; omega), g3, f3 _ _ (by unfold bdF; omega), g2, f2 _ _ (by unfold bdF; omega), f1 _ _ (by unfold bdF; omega)]
  obtain ⟨J5, L', w5, f5, lo, m5, q5⟩ := m_ends (d + 0) (L := L) G k4 (m4.of g4) (nm := nm) y (t := s1.1) (fun z => by
    have z4 := (t5 z).1
    have z3 := (t4 z4).1
    have z2 := (t3 z3).1
    exact ⟨(q1 z2).1, (h.ms z1).1.1, ⟨n20.trans hl3.1, hl3.2⟩, hl4⟩)
  have F5 : Fi (ldM v n) I J5 := F4.tr (f5.up fun _ _ z => Or.inl (esF_en z))
  have h19' : ∀ {J : mI}, Fi (ldM v n) I J → J 384 19 = nI v := fun f => (f _ _ (by unfold ldM enF; omega)).trans h19
  have a93 : J5 393 v = nI n := by
    rw [f5 _ _ (by unfold esF; omega)]
    show uI J4 396 (7 * v + n) y3 393 v = _
    rw [uI_off (by omega), f4 _ _ (by unfold bdF; omega)]
    show uI J3 395 (7 * v + n) y2 393 v = _
    rw [uI_off (by omega), f3 _ _ (by unfold bdF; omega)]
    show uI J2 394 (7 * v + n) y1 393 v = _
    rw [uI_off (by omega), f2 _ _ (by unfold bdF; omega), f1 _ _ (by unfold bdF; omega), h93]
  have walk : evM zcod (d + 5) 181 [.ref 384] (S, I, L) = if ¬ J5 384 13 = nI 0 then some (none, (S, J5, L')) else some (none, (S, uI J5 393 v (nI (n + 1)), L')) := by
    have w3' : evM zcod (d + 4) 180 [.ref 384, .int (nI 1), .int (nI 9)] (S, uI J2 394 (7 * v + n) y1, L) = some (some (.int y2), (S, J3, L)) := w3
    have w5' : evM zcod (d + 4) 179 [.ref 384, .int y] (S, uI J4 396 (7 * v + n) y3, L) = some (none, (S, J5, L')) := w5
    rw [E_X12_tellLoad, B_X12_tellLoad_0]
    simp only [gM G, if_true, true_and, h19, xv, xvi, h93, kv, w1, bI_eq, w2, xk, xki, w3']
    rw [B_X12_tellLoad_49]
    have w4' : evM zcod (d + 4) 180 [.ref 384, .int (nI 0), .int (nI 99)] (S, uI J3 395 (7 * v + n) y2, L) = some (some (.int y3), (S, J4, L)) := w4
    simp only [gM G, if_true, true_and, w4', bI_eq, xk, xki, w5', bV_eq, h19' F5, xv, xvi, a93, nI_add, B_X12_tellLoad_87]
  by_cases z6 : (tk K (nI 59) s5).2 = 0
  · obtain ⟨hm, ho⟩ := m5.ms z6
    have z5 := (tk_le z6).1
    have z4 := (t5 z5).1
    have z3 := (t4 z4).1
    have z2 := (t3 z3).1
    let J6 := uI J5 393 v (nI (n + 1))
    have g6 : ∀ j, J6 384 j = J5 384 j := fun j => uI_off (by omega)
    refine ⟨J6, L', by rw [walk, if_neg (fun q => q hm.2.2.1)], F5.tr (Fi.u Fi.rf (Or.inr (Or.inl ⟨rfl, rfl⟩))), lo, m5.of g6, fun _ => ⟨uI_same _ _ _ _, ?_, ?_, ?_, ?_, ?_⟩⟩
    · show uI J5 393 v (nI (n + 1)) 394 (7 * v + n) = _
      rw [uI_off (by omega), f5 _ _ (by unfold esF; omega)]
      show uI J4 396 (7 * v + n) y3 394 (7 * v + n) = _
      rw [uI_off (by omega), f4 _ _ (by unfold bdF; omega)]
      show uI J3 395 (7 * v + n) y2 394 (7 * v + n) = _
      rw [uI_off (by omega), f3 _ _ (by unfold bdF; omega)]
      exact (uI_same _ _ _ _).trans (q2 z3).1
    · show uI J5 393 v (nI (n + 1)) 395 (7 * v + n) = _
      rw [uI_off (by omega), f5 _ _ (by unfold esF; omega)]
      show uI J4 396 (7 * v + n) y3 395 (7 * v + n) = _
      rw [uI_off (by omega), f4 _ _ (by unfold bdF; omega)]
      exact (uI_same _ _ _ _).trans (q3 z4).1
    · show uI J5 393 v (nI (n + 1)) 396 (7 * v + n) = _
      rw [uI_off (by omega), f5 _ _ (by unfold esF; omega)]
      exact (uI_same _ _ _ _).trans (q4 z5).1
    · have lm := (q4 z5).2
      have ff : ∀ j, j = 15 ∨ j = 16 → J6 384 j = J4 384 j := by
        intro j hj
        rw [g6, f5 _ _ (by unfold esF; omega)]
        exact g4 j
      exact lm.cg (ff 15 (Or.inl rfl)) (ff 16 (Or.inr rfl))
    · have nn := q5 z6
      exact ⟨(g6 20).trans nn.1, nn.2⟩
  · have hf := m5.mf z6
    exact ⟨J5, L', by rw [walk, if_pos hf.n0], F5, lo, m5, fun w => absurd w z6⟩
theorem m_tellHook (d : Nat) {S : mS} {I : mI} {L : mJ} {K V P : Nat → Int32} {N : Nat → Int64} (G : Gd S) (k : TKM I K V P) (o : PO K P) (nr : NR K N L) {v n : Nat} (hv : v < 2) (h19 : I 384 19 = nI v) (hn : n < 5) (h93 : I 400 v = nI n) {s1 s2 s3 s4 s5 : mSt} (h : MSt I K P s1) (z1 : s1.2 = 0) {l : Nat × Nat} {nm : List Nat} (hl : LM I P l ∧ LTk l s1.1 ∧ NMm I L nm ∧ nm.length ≤ 16 ∧ ∀ i, i ∈ nm → i < s1.1 ∧ K i = nI 2) (e2 : s2 = tk K (nI 2) s1) (e3 : s3 = tk K (nI 3) s2) (e4 : s4 = tk K (nI 3) s3) (e5 : s5 = tk K (nI 3) s4) : ∃ J L', evM zcod (d + 5) 183 [.ref 384] (S, I, L) = some (none, (S, J, L')) ∧ Fi (hkM v n) I J ∧ (∀ a j, ¬ a = 392 → L' a j = L a j) ∧ MSt J K P (tk K (nI 59) s5) ∧ ((tk K (nI 59) s5).2 = 0 → J 400 v = nI (n + 1) ∧ J 401 (5 * v + n) = V s2.1 ∧ J 402 (5 * v + n) = V s3.1 ∧ J 403 (5 * v + n) = V s4.1 ∧ LM J P (nbl V (nI 1) (nI 1) (nI 9) s4 (nbl V (nI 1) (nI 0) (nI 5) s3 (nbl V (nI 1) (nI 0) (nI 19) s2 (nml N nm s1 l)))) ∧ NMm J L' (nm ++ [s1.1])) := by
  obtain ⟨hl1, hl2, hl3, hl4, hl5⟩ := hl
  have kv := s5v v hv n hn
  have xv : zin (nI v) 2 = True := ixT hv (by omega)
  have xvi : zix (nI v) = v := ixI (by omega)
  have xk : zin (nI (5 * v + n)) 10 = True := ixT (by omega) (by omega)
  have xki : zix (nI (5 * v + n)) = 5 * v + n := ixI (by omega)
  obtain ⟨y, J1, w1, f1, m1, q1⟩ := m_named (d + 0) (L := L) G k o nr h (l := l) (nm := nm) (fun _ => ⟨hl1, hl2, hl3, hl4, hl5⟩)
  rw [← e2] at m1 q1
  have k1 := bd_tk k f1
  have t2 : s2.2 = 0 → s2.1 = s1.1 + 1 := fun z => by rw [e2] at z ⊢; exact (tk_le z).2.2.1
  have t3 : s3.2 = 0 → s2.2 = 0 ∧ s3.1 = s2.1 + 1 := fun z => by rw [e3] at z ⊢; exact ⟨(tk_le z).1, (tk_le z).2.2.1⟩
  have t4 : s4.2 = 0 → s3.2 = 0 ∧ s4.1 = s3.1 + 1 := fun z => by rw [e4] at z ⊢; exact ⟨(tk_le z).1, (tk_le z).2.2.1⟩
  have t5 : s5.2 = 0 → s4.2 = 0 ∧ s5.1 = s4.1 + 1 := fun z => by rw [e5] at z ⊢; exact ⟨(tk_le z).1, (tk_le z).2.2.1⟩
  have lA : s2.2 = 0 → LTk (nml N nm s1 l) s2.1 := fun z => (hl2.up (by have := t2 z; omega)).nm (by have := t2 z; omega)
  have lB : s3.2 = 0 → LTk (nbl V (nI 1) (nI 0) (nI 19) s2 (nml N nm s1 l)) s3.1 := fun z => by
    obtain ⟨a, b⟩ := t3 z
    exact ((lA a).up (by omega)).nb (by omega)
  have lC : s4.2 = 0 → LTk (nbl V (nI 1) (nI 0) (nI 5) s3 (nbl V (nI 1) (nI 0) (nI 19) s2 (nml N nm s1 l))) s4.1 := fun z => by
    obtain ⟨a, b⟩ := t4 z
    exact ((lB a).up (by omega)).nb (by omega)
  obtain ⟨y1, J2, w2, f2, m2, q2⟩ := m_boundedL (d + 0) (L := L) G k1 o m1 (nI 0) (nI 19) (l := nml N nm s1 l) (fun z => ⟨(q1 z).2, lA z⟩)
  rw [← e3] at m2 q2
  let I2 := uI J2 401 (5 * v + n) y1
  have g2 : ∀ j, I2 384 j = J2 384 j := fun j => uI_off (by omega)
  have F2 : Fi (hkM v n) I I2 := ((f1.tr f2).up fun _ _ z => Or.inl (bdF_en z)).tr (Fi.u Fi.rf (Or.inr (Or.inr ⟨by omega, by omega, rfl⟩)))
  have k2 : TKM I2 K V P := k.fi F2 fun a x y j => by unfold hkM enF; omega
  obtain ⟨y2, J3, w3, f3, m3, q3⟩ := m_boundedL (d + 0) (L := L) G k2 o (m2.of g2) (nI 0) (nI 5) (l := nbl V (nI 1) (nI 0) (nI 19) s2 (nml N nm s1 l)) (fun z => ⟨(q2 z).2.cg (g2 _) (g2 _), lB z⟩)
  rw [← e4] at m3 q3
  let I3 := uI J3 402 (5 * v + n) y2
  have g3 : ∀ j, I3 384 j = J3 384 j := fun j => uI_off (by omega)
  have F3 : Fi (hkM v n) I I3 := F2.tr ((f3.up fun _ _ z => Or.inl (bdF_en z)).tr (Fi.u Fi.rf (Or.inr (Or.inr ⟨by omega, by omega, rfl⟩))))
  have k3 : TKM I3 K V P := k.fi F3 fun a x y j => by unfold hkM enF; omega
  obtain ⟨y3, J4, w4, f4, m4, q4⟩ := m_boundedL (d + 0) (L := L) G k3 o (m3.of g3) (nI 1) (nI 9) (l := nbl V (nI 1) (nI 0) (nI 5) s3 (nbl V (nI 1) (nI 0) (nI 19) s2 (nml N nm s1 l))) (fun z => ⟨(q3 z).2.cg (g3 _) (g3 _), lC z⟩)
  rw [← e5] at m4 q4
  let I4 := uI J4 403 (5 * v + n) y3
  have g4 : ∀ j, I4 384 j = J4 384 j := fun j => uI_off (by omega)
  have F4' : Fi (hkM v n) I J4 := F3.tr (f4.up fun _ _ z => Or.inl (bdF_en z))
  have F4 : Fi (hkM v n) I I4 := F4'.tr (Fi.u Fi.rf (Or.inr (Or.inr ⟨by omega, by omega, rfl⟩)))
  have k4 : TKM I4 K V P := k.fi F4 fun a x y j => by unfold hkM enF; omega
  have n20 : I4 384 20 = I 384 20 := by
    rw [g4, f4 _ _ (by unfold bdF; omega), g3, f3 _ _ (by unfold bdF; omega), g2, f2 _ _ (by unfold bdF; omega), f1 _ _ (by unfold bdF; omega)]
  obtain ⟨J5, L', w5, f5, lo, m5, q5⟩ := m_ends (d + 0) (L := L) G k4 (m4.of g4) (nm := nm) y (t := s1.1) (fun z => by
    have z4 := (t5 z).1
    have z3 := (t4 z4).1
    have z2 := (t3 z3).1
    exact ⟨(q1 z2).1, (h.ms z1).1.1, ⟨n20.trans hl3.1, hl3.2⟩, hl4⟩)
  have F5 : Fi (hkM v n) I J5 := F4.tr (f5.up fun _ _ z => Or.inl (esF_en z))
  have h19' : ∀ {J : mI}, Fi (hkM v n) I J → J 384 19 = nI v := fun f => (f _ _ (by unfold hkM enF; omega)).trans h19
  have a93 : J5 400 v = nI n := by
    rw [f5 _ _ (by unfold esF; omega)]
    show uI J4 403 (5 * v + n) y3 400 v = _
    rw [uI_off (by omega), f4 _ _ (by unfold bdF; omega)]
    show uI J3 402 (5 * v + n) y2 400 v = _
    rw [uI_off (by omega), f3 _ _ (by unfold bdF; omega)]
    show uI J2 401 (5 * v + n) y1 400 v = _
    rw [uI_off (by omega), f2 _ _ (by unfold bdF; omega), f1 _ _ (by unfold bdF; omega), h93]
  have walk : evM zcod (d + 5) 183 [.ref 384] (S, I, L) = if ¬ J5 384 13 = nI 0 then some (none, (S, J5, L')) else some (none, (S, uI J5 400 v (nI (n + 1)), L')) := by
    have w3' : evM zcod (d + 4) 180 [.ref 384, .int (nI 0), .int (nI 5)] (S, uI J2 401 (5 * v + n) y1, L) = some (some (.int y2), (S, J3, L)) := w3
    have w5' : evM zcod (d + 4) 179 [.ref 384, .int y] (S, uI J4 403 (5 * v + n) y3, L) = some (none, (S, J5, L')) := w5
    rw [E_X12_tellHook, B_X12_tellHook_0]
    simp only [gM G, if_true, true_and, h19, xv, xvi, h93, kv, w1, bI_eq, w2, xk, xki, w3']
    rw [B_X12_tellHook_47]
    have w4' : evM zcod (d + 4) 180 [.ref 384, .int (nI 1), .int (nI 9)] (S, uI J3 402 (5 * v + n) y2, L) = some (some (.int y3), (S, J4, L)) := w4
    simp only [gM G, if_true, true_and, w4', bI_eq, xk, xki, w5', bV_eq, h19' F5, xv, xvi, a93, nI_add, B_X12_tellHook_85]
  by_cases z6 : (tk K (nI 59) s5).2 = 0
  · obtain ⟨hm, ho⟩ := m5.ms z6
    have z5 := (tk_le z6).1
    have z4 := (t5 z5).1
    have z3 := (t4 z4).1
    have z2 := (t3 z3).1
    let J6 := uI J5 400 v (nI (n + 1))
    have g6 : ∀ j, J6 384 j = J5 384 j := fun j => uI_off (by omega)
    refine ⟨J6, L', by rw [walk, if_neg (fun q => q hm.2.2.1)], F5.tr (Fi.u Fi.rf (Or.inr (Or.inl ⟨rfl, rfl⟩))), lo, m5.of g6, fun _ => ⟨uI_same _ _ _ _, ?_, ?_, ?_, ?_, ?_⟩⟩
    · show uI J5 400 v (nI (n + 1)) 401 (5 * v + n) = _
      rw [uI_off (by omega), f5 _ _ (by unfold esF; omega)]
      show uI J4 403 (5 * v + n) y3 401 (5 * v + n) = _
      rw [uI_off (by omega), f4 _ _ (by unfold bdF; omega)]
      show uI J3 402 (5 * v + n) y2 401 (5 * v + n) = _
      rw [uI_off (by omega), f3 _ _ (by unfold bdF; omega)]
      exact (uI_same _ _ _ _).trans (q2 z3).1
    · show uI J5 400 v (nI (n + 1)) 402 (5 * v + n) = _
      rw [uI_off (by omega), f5 _ _ (by unfold esF; omega)]
      show uI J4 403 (5 * v + n) y3 402 (5 * v + n) = _
      rw [uI_off (by omega), f4 _ _ (by unfold bdF; omega)]
      exact (uI_same _ _ _ _).trans (q3 z4).1
    · show uI J5 400 v (nI (n + 1)) 403 (5 * v + n) = _
      rw [uI_off (by omega), f5 _ _ (by unfold esF; omega)]
      exact (uI_same _ _ _ _).trans (q4 z5).1
    · have lm := (q4 z5).2
      have ff : ∀ j, j = 15 ∨ j = 16 → J6 384 j = J4 384 j := by
        intro j hj
        rw [g6, f5 _ _ (by unfold esF; omega)]
        exact g4 j
      exact lm.cg (ff 15 (Or.inl rfl)) (ff 16 (Or.inr rfl))
    · have nn := q5 z6
      exact ⟨(g6 20).trans nn.1, nn.2⟩
  · have hf := m5.mf z6
    exact ⟨J5, L', by rw [walk, if_pos hf.n0], F5, lo, m5, fun w => absurd w z6⟩
