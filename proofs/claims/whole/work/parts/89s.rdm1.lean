/-! read, reference side -/
theorem CM.rg {I J : mI} : ∀ {a : List Int32} {p : Nat}, CM I p a → (∀ j, p ≤ j → j < p + a.length → J 414 j = I 414 j ∧ J 415 j = I 415 j) → CM J p a
  | [], _, _, _ => trivial
  | _ :: a, p, h, e => ⟨((e p (Nat.le_refl _) (by show p < p + (a.length + 1); omega)).1).trans h.1, ((e p (Nat.le_refl _) (by show p < p + (a.length + 1); omega)).2).trans h.2.1, h.2.2.1, CM.rg h.2.2.2 fun j q1 q2 => e j (by omega) (by show j < p + (a.length + 1); omega)⟩
theorem MW.kp {I J : mI} {qe last v : Nat} (hb : ∀ a, 409 ≤ a → a ≤ 413 → ∀ j, 130 * v ≤ j → j < 130 * v + 130 → J a j = I a j) (hc : ∀ j, 420 * v ≤ j → j < 420 * v + 420 → J 414 j = I 414 j ∧ J 415 j = I 415 j) (hl : last ≤ 130 * v + 130) (hq : qe ≤ 420 * v + 420) : ∀ {r : List mBr} {e : List Int32} {b : Nat}, 130 * v ≤ b → MW I qe last b r e → MW J qe last b r e
  | [], e, b, hv, ⟨q1, q2, p, q, q3, q4, q5, q6, q7, q8, q9⟩ => by
    have bv : b / 130 = v := by omega
    rw [bv] at q9
    refine ⟨q1, (hb _ (by omega) (by omega) _ (by omega) (by omega)).trans q2, p, q, (hb _ (by omega) (by omega) _ (by omega) (by omega)).trans q3, (hb _ (by omega) (by omega) _ (by omega) (by omega)).trans q4, q5, q6, q7.rg fun j h1 h2 => hc j (by omega) (by omega), q8, by rw [bv]; exact q9⟩
  | (x, y, t) :: r, e, b, hv, ⟨q1, q2, ⟨p0, p1, p2, p3, a1, a2, a3, a4, a5, a6, a7, a8, a9, b1, b2, b3, b4, b5, b6⟩, q⟩ => by
    have bv : b / 130 = v := by omega
    rw [bv] at b6
    refine ⟨q1, (hb _ (by omega) (by omega) _ (by omega) (by omega)).trans q2, ⟨p0, p1, p2, p3, (hb _ (by omega) (by omega) _ (by omega) (by omega)).trans a1, (hb _ (by omega) (by omega) _ (by omega) (by omega)).trans a2, (hb _ (by omega) (by omega) _ (by omega) (by omega)).trans a3, (hb _ (by omega) (by omega) _ (by omega) (by omega)).trans a4, a5, a6, a7, a8, a9.rg fun j h1 h2 => hc j (by omega) (by omega), b1, b2.rg fun j h1 h2 => hc j (by omega) (by omega), b3, b4.rg fun j h1 h2 => hc j (by omega) (by omega), b5, by rw [bv]; exact b6⟩, MW.kp hb hc hl hq (by omega) q⟩
theorem MW.nine {I : mI} {qe last : Nat} (v : Nat → Int32) : ∀ {r : List mBr} {e : List Int32} {b : Nat}, MW I qe last b r e → lwB (n9 v) r e = lwB v r e
  | [], e, b, ⟨_, _, p, q, _, _, _, _, _, q8, _⟩ => by
    show (evO (n9 v) e).getD 0 = (evO v e).getD 0
    rw [q8.nine]
  | (x, y, t) :: r, e, b, ⟨_, _, ⟨_, _, _, _, _, _, _, _, _, _, _, _, _, b1, _, b3, _, b5, _⟩, q⟩ => by
    rw [lwB_c, lwB_c, b1.nine, b3.nine, b5.nine, MW.nine v q]
theorem dfl_w (w : Nat → Int32) : ∀ k, k < 4 → dfl k w = lwB w (dfW k).1 (dfW k).2 := by
  have h1 : ¬ nI 0 ≤ (-12 : Int32) := by decide +kernel
  have h2 : (-12 : Int32) ≤ -10 := by decide +kernel
  have h3 : ((-10 : Int32) - (-12)).toInt.toNat = 2 := by decide +kernel
  have g1 : ¬ nI 0 ≤ (-13 : Int32) := by decide +kernel
  have g2 : (-13 : Int32) ≤ -10 := by decide +kernel
  have g3 : ((-10 : Int32) - (-13)).toInt.toNat = 3 := by decide +kernel
  have p1 : ¬ nI 0 ≤ (-16 : Int32) := by decide +kernel
  have p2 : (-16 : Int32) ≤ -10 := by decide +kernel
  have p3 : ((-10 : Int32) - (-16)).toInt.toNat = 6 := by decide +kernel
  have s1 : ¬ nI 0 ≤ (-2 : Int32) := by decide +kernel
  have s2 : ¬ (-2 : Int32) ≤ -10 := by decide +kernel
  have s3 : ¬ ((-2 : Int32) = -4) := by decide +kernel
  have s4 : ¬ ((-2 : Int32) = -3) := by decide +kernel
  intro k hk
  match k, hk with
  | 0, _ =>
    show w 2 - w 3 = (evO w [-12, -13, -2]).getD 0
    have e : evP w [-12, -13, -2] [] = some [w 2 - w 3] := by
      unfold evP
      rw [if_neg h1, if_pos h2, h3]
      unfold evP
      rw [if_neg g1, if_pos g2, g3]
      unfold evP
      rw [if_neg s1, if_neg s2]
      show (if (-2 : Int32) = -4 ∧ w 3 = nI 0 then none else some [jnS (-2) (w 2) (w 3)]) = _
      rw [if_neg (fun q => s3 q.1)]
      unfold jnS
      rw [if_neg s4, if_pos rfl]
    unfold evO
    rw [e]
    rfl
  | 1, _ =>
    show (0 : Int32) = (evO w [nI 0]).getD 0
    have e : evP w [nI 0] [] = some [nI 0] := by
      unfold evP
      rw [if_pos (Int32.le_refl _)]
      rfl
    unfold evO
    rw [e]
    decide +kernel
  | 2, _ =>
    show w 3 = (evO w [-13]).getD 0
    have e : evP w [-13] [] = some [w 3] := by
      unfold evP
      rw [if_neg g1, if_pos g2, g3]
      rfl
    unfold evO
    rw [e]
    rfl
  | 3, _ =>
    show w 6 = (evO w [-16]).getD 0
    have e : evP w [-16] [] = some [w 6] := by
      unfold evP
      rw [if_neg p1, if_pos p2, p3]
      rfl
    unfold evO
    rw [e]
    rfl
def PLM (I : mI) (P : mP) (v : Nat) : Prop := v < 2 ∧ I 384 18 = nI v ∧ ∀ k, k < 4 → ∃ fi la qe r e, I 407 (4 * v + k) = nI fi ∧ I 408 (4 * v + k) = nI la ∧ la ≤ 260 ∧ (fi = la ∧ (∀ w, dfl k w = lwB w r e) ∨ 130 * v ≤ fi ∧ la ≤ 130 * v + 130 ∧ qe ≤ 420 * v + 420 ∧ MW I qe la fi r e) ∧ (∀ w, lawf P k w = lwB w r e) ∧ ∀ w, lwB (n9 w) r e = lwB w r e
theorem PLM.law {S : mS} (G : Gd S) {I : mI} {P : mP} {v : Nat} (h : PLM I P v) : LawM S P I := by
  obtain ⟨hv, h18, h⟩ := h
  intro k hk J d L e1 e2
  obtain ⟨fi, la, qe, r, e, a1, a2, a3, a4, a5, a6⟩ := h k hk
  have hq : ∃ qe', qe' ≤ 840 ∧ (fi = la ∧ dfl k (J 417) = lwB (J 417) r e ∨ MW J qe' la fi r e) := by
    rcases a4 with ⟨b1, b2⟩ | ⟨b1, b2, b3, b4⟩
    · exact ⟨0, by omega, Or.inl ⟨b1, b2 _⟩⟩
    · exact ⟨qe, by omega, Or.inr (b4.cg fun a x y j => by rw [e2 a (by omega) y])⟩
  obtain ⟨qe', h1, h2⟩ := hq
  obtain ⟨J', w, f⟩ := m_lawTells d (S := S) (I := J) (L := L) G h1 hv hk (e1.trans h18) (by rw [e2 407 (by omega) (by omega)]; exact a1) (by rw [e2 408 (by omega) (by omega)]; exact a2) a3 (dfl k (J 417)) h2
  refine ⟨J', ?_, f⟩
  rw [a5, a6]
  exact w
theorem PLM.cg {I J : mI} {P : mP} {v : Nat} (h : PLM I P v) (e18 : J 384 18 = I 384 18) (e7 : ∀ a j, (a = 407 ∨ a = 408) → 4 * v ≤ j → j < 4 * v + 4 → J a j = I a j) (hb : ∀ a, 409 ≤ a → a ≤ 413 → ∀ j, 130 * v ≤ j → j < 130 * v + 130 → J a j = I a j) (hc : ∀ j, 420 * v ≤ j → j < 420 * v + 420 → J 414 j = I 414 j ∧ J 415 j = I 415 j) : PLM J P v := by
  obtain ⟨hv, h18, h⟩ := h
  refine ⟨hv, e18.trans h18, fun k hk => ?_⟩
  obtain ⟨fi, la, qe, r, e, a1, a2, a3, a4, a5, a6⟩ := h k hk
  exact ⟨fi, la, qe, r, e, (e7 _ _ (Or.inl rfl) (by omega) (by omega)).trans a1, (e7 _ _ (Or.inr rfl) (by omega) (by omega)).trans a2, a3, a4.imp id fun ⟨b1, b2, b3, b4⟩ => ⟨b1, b2, b3, b4.kp hb hc b2 b3 b1⟩, a5, a6⟩
def RM (I : mI) (L : mJ) (P : mP) (v : Nat) : Prop := WML L ∧ PLM I P v
/-! the pieces of read -/
theorem i8_and (x : Int32) : x.toInt8.toInt32 &&& nI 255 = nI (x.toBitVec.toNat % 256) := by
  rw [pk_and _ 8 (m := nI 255) (by decide +kernel)]
  congr 1
  rw [Int8.toBitVec_toInt32, Int32.toBitVec_toInt8, BitVec.signExtend_eq_setWidth_of_le _ (show 8 ≤ 32 by omega), BitVec.toNat_signExtend]
  simp only [BitVec.toNat_setWidth]
  split <;> omega
theorem m_copyText (d : Nat) {S : mS} {L : mJ} (G : Gd S) {tp : Nat} (htp : tp ≤ 2000) : ∀ (n i : Nat) (I : mI), i + n = tp → I 384 4 = nI tp → ∃ J, evk zcod none d zc_X12_read 10 [(0, .ref 384), (1, .int (nI i))] [] (S, I, L) = evk zcod none d zc_X12_read 36 [(0, .ref 384)] [] (S, J, L) ∧ Fi (fun a j => a = 386 ∧ i ≤ j) I J ∧ ∀ j, i ≤ j → j < tp → J 386 j = (I 385 j).toInt8.toInt32 := by
  intro n
  induction n with
  | zero =>
    intro i I hi h4
    refine ⟨I, ?_, Fi.rf, fun j h1 h2 => by omega⟩
    rw [B_X12_read_10]
    simp only [gM G, if_true, h4]
    rw [if_pos (nI_le (by omega) (by omega))]
  | succ n ih =>
    intro i I hi h4
    let I1 := uI I 386 i ((I 385 i).toInt8.toInt32)
    have f1 : Fi (fun a j => a = 386 ∧ i ≤ j) I I1 := Fi.u Fi.rf ⟨rfl, Nat.le_refl _⟩
    obtain ⟨J, e, f, q⟩ := ih (i + 1) I1 (by omega) ((uI_off (by omega)).trans h4)
    have x : zin (nI i) 2000 = True := ixT (by omega) (by omega)
    have xi : zix (nI i) = i := ixI (by omega)
    refine ⟨J, ?_, f1.tr (f.up fun a j z => ⟨z.1, by omega⟩), fun j h1 h2 => ?_⟩
    · rw [B_X12_read_10]
      simp only [gM G, if_true, true_and, h4, x, xi]
      rw [if_neg (nI_ge (by omega) (by omega)), nI_add]
      exact e
    · by_cases c : j = i
      · subst c
        exact (f 386 j (by omega)).trans (uI_same _ _ _ _)
      · exact (q j (by omega) h2).trans (by rw [show I1 385 j = I 385 j from uI_off (by omega)])
theorem m_plain (d : Nat) {S : mS} {I : mI} {L : mJ} (G : Gd S) {v : Nat} (hv : v < 2) : ∃ J, evM zcod (d + 1) 172 [.ref 384, .int (nI v)] (S, I, L) = some (none, (S, J, L)) ∧ Fi (fun a j => (a = 393 ∨ a = 397 ∨ a = 400 ∨ 404 ≤ a ∧ a ≤ 406) ∧ j = v ∨ (a = 407 ∨ a = 408) ∧ (4 * v ≤ j ∧ j < 4 * v + 4)) I J ∧ (J 393 v = nI 0 ∧ J 397 v = nI 0 ∧ J 400 v = nI 0) ∧ (J 404 v = nI 10 ∧ J 405 v = nI 0 ∧ J 406 v = nI 0) ∧ ∀ k, k < 4 → J 407 (4 * v + k) = nI 0 ∧ J 408 (4 * v + k) = nI 0 := by
  have x : zin (nI v) 2 = True := ixT hv (by omega)
  have xi : zix (nI v) = v := ixI (by omega)
  have loop : ∀ n i (I : mI), i + n = 4 → ∃ J, evk zcod none d zc_X12_plain 45 [(0, .ref 384), (1, .int (nI v)), (2, .int (nI i))] [] (S, I, L) = some (none, (S, J, L)) ∧ Fi (fun a j => (a = 407 ∨ a = 408) ∧ (4 * v + i ≤ j ∧ j < 4 * v + 4)) I J ∧ ∀ k, i ≤ k → k < 4 → J 407 (4 * v + k) = nI 0 ∧ J 408 (4 * v + k) = nI 0 := by
    intro n
    induction n with
    | zero =>
      intro i I hi
      refine ⟨I, ?_, Fi.rf, fun k h1 h2 => by omega⟩
      rw [B_X12_plain_45, if_pos (nI_le (by omega) (by omega)), B_X12_plain_78]
    | succ n ih =>
      intro i I hi
      have kv := s4v v hv i (by omega)
      have y : zin (nI (4 * v + i)) 8 = True := ixT (by omega) (by omega)
      have yi : zix (nI (4 * v + i)) = 4 * v + i := ixI (by omega)
      have f1 : Fi (fun a j => (a = 407 ∨ a = 408) ∧ (4 * v + i ≤ j ∧ j < 4 * v + 4)) I (uI (uI I 407 (4 * v + i) (nI 0)) 408 (4 * v + i) (nI 0)) := Fi.u (Fi.u Fi.rf ⟨Or.inl rfl, by omega, by omega⟩) ⟨Or.inr rfl, by omega, by omega⟩
      obtain ⟨J, e, f, q⟩ := ih (i + 1) (uI (uI I 407 (4 * v + i) (nI 0)) 408 (4 * v + i) (nI 0)) (by omega)
      refine ⟨J, ?_, f1.tr (f.up fun a j z => ⟨z.1, by omega, by omega⟩), fun k h1 h2 => ?_⟩
      · rw [B_X12_plain_45, if_neg (nI_ge (by omega) (by omega))]
        simp only [gM G, if_true, true_and, kv, y, yi, nI_add]
        exact e
      · by_cases c : k = i
        · subst c
          refine ⟨(f _ _ (by omega)).trans ((uI_off (by omega)).trans (uI_same _ _ _ _)), (f _ _ (by omega)).trans (uI_same _ _ _ _)⟩
        · exact q k (by omega) h2
  let I1 := uI (uI (uI (uI (uI (uI I 393 v (nI 0)) 397 v (nI 0)) 400 v (nI 0)) 404 v (nI 10)) 405 v (nI 0)) 406 v (nI 0)
  have f1 : Fi (fun a j => (a = 393 ∨ a = 397 ∨ a = 400 ∨ 404 ≤ a ∧ a ≤ 406) ∧ j = v ∨ (a = 407 ∨ a = 408) ∧ (4 * v ≤ j ∧ j < 4 * v + 4)) I I1 := Fi.u (Fi.u (Fi.u (Fi.u (Fi.u (Fi.u Fi.rf (Or.inl ⟨by omega, rfl⟩)) (Or.inl ⟨by omega, rfl⟩)) (Or.inl ⟨by omega, rfl⟩)) (Or.inl ⟨by omega, rfl⟩)) (Or.inl ⟨by omega, rfl⟩)) (Or.inl ⟨by omega, rfl⟩)
  obtain ⟨J, e, f, q⟩ := loop 4 0 I1 rfl
  have o : ∀ a j, ¬ a = 407 → ¬ a = 408 → J a j = I1 a j := fun a j p r => f a j (by omega)
  refine ⟨J, ?_, f1.tr (f.up fun a j z => Or.inr ⟨z.1, by omega, by omega⟩), ⟨?_, ?_, ?_⟩, ⟨?_, ?_, ?_⟩, fun k hk => q k (Nat.zero_le _) hk⟩
  · rw [E_X12_plain, B_X12_plain_0]
    simp only [gM G, if_true, true_and, x, xi]
    rw [B_X12_plain_29]
    simp only [gM G, if_true, true_and, x, xi]
    exact e
  · rw [o _ _ (by omega) (by omega)]
    exact (uI_off (by omega)).trans ((uI_off (by omega)).trans ((uI_off (by omega)).trans ((uI_off (by omega)).trans ((uI_off (by omega)).trans (uI_same _ _ _ _)))))
  · rw [o _ _ (by omega) (by omega)]
    exact (uI_off (by omega)).trans ((uI_off (by omega)).trans ((uI_off (by omega)).trans ((uI_off (by omega)).trans (uI_same _ _ _ _))))
  · rw [o _ _ (by omega) (by omega)]
    exact (uI_off (by omega)).trans ((uI_off (by omega)).trans ((uI_off (by omega)).trans (uI_same _ _ _ _)))
  · rw [o _ _ (by omega) (by omega)]
    exact (uI_off (by omega)).trans ((uI_off (by omega)).trans (uI_same _ _ _ _))
  · rw [o _ _ (by omega) (by omega)]
    exact (uI_off (by omega)).trans (uI_same _ _ _ _)
  · rw [o _ _ (by omega) (by omega)]
    exact uI_same _ _ _ _
/-! the row as a text begins it -/
theorem m_begins (d : Nat) {S : mS} {I : mI} {L : mJ} (G : Gd S) {v : Nat} (hv : v < 2) (h18 : I 384 18 = nI v) {T : mTx} (q1 : tLo T ≤ 7) (q2 : tSi T ≤ 5) (q3 : tHo T ≤ 5) (hL : ML I v (tLo T) (tSt T)) (hK : MK I v (tSi T) (tSt T)) (hH : MH I v (tHo T) (tSt T)) : ∃ J, evM zcod (d + 1) 198 [.ref 384] (S, I, L) = some (none, (S, J, L)) ∧ RW J (r0 T) ∧ Fi (fun a j => a = 420 ∨ a = 384 ∧ j = 54) I J := by
  have xv : zin (nI v) 2 = True := ixT hv (by omega)
  have xvi : zix (nI v) = v := ixI (by omega)
  have lA : ∀ n i (I : mI), i + n = 58 → ∃ J, evk zcod none d zc_X12_begins 2 [(0, .ref 384), (1, .int (nI i))] [] (S, I, L) = evk zcod none d zc_X12_begins 21 [(0, .ref 384)] [] (S, J, L) ∧ Fi (fun a j => a = 420 ∧ i ≤ j) I J ∧ ∀ k, i ≤ k → k < 58 → J 420 k = nI 0 := by
    intro n
    induction n with
    | zero =>
      intro i I hi
      refine ⟨I, ?_, Fi.rf, fun k h1 h2 => by omega⟩
      rw [B_X12_begins_2, if_pos (nI_le (by omega) (by omega))]
    | succ n ih =>
      intro i I hi
      have y : zin (nI i) 58 = True := ixT (by omega) (by omega)
      have yi : zix (nI i) = i := ixI (by omega)
      obtain ⟨J, e, f, q⟩ := ih (i + 1) (uI I 420 i (nI 0)) (by omega)
      refine ⟨J, ?_, (Fi.u (A := fun a j => a = 420 ∧ i ≤ j) Fi.rf ⟨rfl, Nat.le_refl _⟩).tr (f.up fun a j z => ⟨z.1, by omega⟩), fun k h1 h2 => ?_⟩
      · rw [B_X12_begins_2, if_neg (nI_ge (by omega) (by omega))]
        simp only [gM G, if_true, true_and, y, yi, nI_add]
        exact e
      · by_cases c : k = i
        · subst c
          exact (f 420 k (by omega)).trans (uI_same _ _ _ _)
        · exact q k (by omega) h2
  have lB : ∀ n i (I : mI), i + n = 40 → ∃ J, evk zcod none d zc_X12_begins 24 [(0, .ref 384), (1, .int (nI i))] [] (S, I, L) = evk zcod none d zc_X12_begins 44 [(0, .ref 384)] [] (S, J, L) ∧ Fi (fun a j => a = 420 ∧ i ≤ j ∧ j < 40) I J ∧ ∀ k, i ≤ k → k < 40 → J 420 k = -2 := by
    intro n
    induction n with
    | zero =>
      intro i I hi
      refine ⟨I, ?_, Fi.rf, fun k h1 h2 => by omega⟩
      rw [B_X12_begins_24, if_pos (nI_le (by omega) (by omega))]
    | succ n ih =>
      intro i I hi
      have y : zin (nI i) 58 = True := ixT (by omega) (by omega)
      have yi : zix (nI i) = i := ixI (by omega)
      obtain ⟨J, e, f, q⟩ := ih (i + 1) (uI I 420 i (-2)) (by omega)
      refine ⟨J, ?_, (Fi.u (A := fun a j => a = 420 ∧ i ≤ j ∧ j < 40) Fi.rf ⟨rfl, Nat.le_refl _, by omega⟩).tr (f.up fun a j z => ⟨z.1, by omega, by omega⟩), fun k h1 h2 => ?_⟩
      · rw [B_X12_begins_24, if_neg (nI_ge (by omega) (by omega))]
        simp only [gM G, if_true, true_and, y, yi, nI_add]
        exact e
      · by_cases c : k = i
        · subst c
          exact (f 420 k (by omega)).trans (uI_same _ _ _ _)
        · exact q k (by omega) h2
  have lC : ∀ n i (I : mI), i + n = tLo T → I 384 18 = nI v → ML I v (tLo T) (tSt T) → ∃ J, evk zcod none d zc_X12_begins 46 [(0, .ref 384), (1, .int (nI i))] [] (S, I, L) = evk zcod none d zc_X12_begins 85 [(0, .ref 384)] [] (S, J, L) ∧ Fi (fun a j => a = 420 ∧ i ≤ j ∧ j < tLo T) I J ∧ ∀ k, i ≤ k → k < tLo T → J 420 k = tSt T (60 + k) := by
    intro n
    induction n with
    | zero =>
      intro i I hi h18 hL
      refine ⟨I, ?_, Fi.rf, fun k h1 h2 => by omega⟩
      rw [B_X12_begins_46]
      simp only [gM G, if_true, true_and, h18, xv, xvi, hL.1]
      rw [if_pos (nI_le (by omega) (by omega))]
    | succ n ih =>
      intro i I hi h18 hL
      have y : zin (nI i) 58 = True := ixT (by omega) (by omega)
      have yi : zix (nI i) = i := ixI (by omega)
      have kv := s7v v hv i (by omega)
      have w : zin (nI (7 * v + i)) 14 = True := ixT (by omega) (by omega)
      have wi : zix (nI (7 * v + i)) = 7 * v + i := ixI (by omega)
      have va := (hL.2 i (by omega)).1
      obtain ⟨J, e, f, q⟩ := ih (i + 1) (uI I 420 i (tSt T (60 + i))) (by omega) ((uI_off (by omega)).trans h18) (hL.cg (uI_off (by omega)) (fun a _ _ _ _ => uI_off (by omega)) fun _ _ => ⟨rfl, rfl, rfl⟩)
      refine ⟨J, ?_, (Fi.u (A := fun a j => a = 420 ∧ i ≤ j ∧ j < tLo T) Fi.rf ⟨rfl, Nat.le_refl _, by omega⟩).tr (f.up fun a j z => ⟨z.1, by omega, by omega⟩), fun k h1 h2 => ?_⟩
      · rw [B_X12_begins_46]
        simp only [gM G, if_true, true_and, h18, xv, xvi, hL.1]
        rw [if_neg (nI_ge (by omega) (by omega))]
        simp only [kv, w, wi, y, yi, va, if_true, nI_add]
        exact e
      · by_cases c : k = i
        · subst c
          exact (f 420 k (by omega)).trans (uI_same _ _ _ _)
        · exact q k (by omega) h2
  have lD : ∀ n i (I : mI), i + n = tSi T → I 384 18 = nI v → MK I v (tSi T) (tSt T) → ∃ J, evk zcod none d zc_X12_begins 87 [(0, .ref 384), (1, .int (nI i))] [] (S, I, L) = evk zcod none d zc_X12_begins 128 [(0, .ref 384)] [] (S, J, L) ∧ Fi (fun a j => a = 420 ∧ 40 + i ≤ j ∧ j < 40 + tSi T) I J ∧ ∀ k, i ≤ k → k < tSi T → J 420 (40 + k) = tSt T (80 + k) := by
    intro n
    induction n with
    | zero =>
      intro i I hi h18 hL
      refine ⟨I, ?_, Fi.rf, fun k h1 h2 => by omega⟩
      rw [B_X12_begins_87]
      simp only [gM G, if_true, true_and, h18, xv, xvi, hL.1]
      rw [if_pos (nI_le (by omega) (by omega))]
    | succ n ih =>
      intro i I hi h18 hL
      have y : zin (nI (40 + i)) 58 = True := ixT (by omega) (by omega)
      have yi : zix (nI (40 + i)) = 40 + i := ixI (by omega)
      have kv := s5v v hv i (by omega)
      have w : zin (nI (5 * v + i)) 10 = True := ixT (by omega) (by omega)
      have wi : zix (nI (5 * v + i)) = 5 * v + i := ixI (by omega)
      have va := (hL.2 i (by omega)).2
      obtain ⟨J, e, f, q⟩ := ih (i + 1) (uI I 420 (40 + i) (tSt T (80 + i))) (by omega) ((uI_off (by omega)).trans h18) (hL.cg (uI_off (by omega)) (fun a _ _ _ _ => uI_off (by omega)) fun _ _ => ⟨rfl, rfl⟩)
      refine ⟨J, ?_, (Fi.u (A := fun a j => a = 420 ∧ 40 + i ≤ j ∧ j < 40 + tSi T) Fi.rf ⟨rfl, Nat.le_refl _, by omega⟩).tr (f.up fun a j z => ⟨z.1, by omega, by omega⟩), fun k h1 h2 => ?_⟩
      · rw [B_X12_begins_87]
        simp only [gM G, if_true, true_and, h18, xv, xvi, hL.1]
        rw [if_neg (nI_ge (by omega) (by omega))]
        simp only [kv, w, wi, nI_add, y, yi, va, if_true]
        exact e
      · by_cases c : k = i
        · subst c
          exact (f 420 _ (by omega)).trans (uI_same _ _ _ _)
        · exact q k (by omega) h2
  have lE : ∀ n i (I : mI), i + n = tHo T → I 384 18 = nI v → MH I v (tHo T) (tSt T) → ∃ J, evk zcod none d zc_X12_begins 130 [(0, .ref 384), (1, .int (nI i))] [] (S, I, L) = evk zcod none d zc_X12_begins 171 [(0, .ref 384)] [] (S, J, L) ∧ Fi (fun a j => a = 420 ∧ 50 + i ≤ j ∧ j < 50 + tHo T) I J ∧ ∀ k, i ≤ k → k < tHo T → J 420 (50 + k) = tSt T (70 + k) := by
    intro n
    induction n with
    | zero =>
      intro i I hi h18 hL
      refine ⟨I, ?_, Fi.rf, fun k h1 h2 => by omega⟩
      rw [B_X12_begins_130]
      simp only [gM G, if_true, true_and, h18, xv, xvi, hL.1]
      rw [if_pos (nI_le (by omega) (by omega))]
    | succ n ih =>
      intro i I hi h18 hL
      have y : zin (nI (50 + i)) 58 = True := ixT (by omega) (by omega)
      have yi : zix (nI (50 + i)) = 50 + i := ixI (by omega)
      have kv := s5v v hv i (by omega)
      have w : zin (nI (5 * v + i)) 10 = True := ixT (by omega) (by omega)
      have wi : zix (nI (5 * v + i)) = 5 * v + i := ixI (by omega)
      have va := (hL.2 i (by omega)).1
      obtain ⟨J, e, f, q⟩ := ih (i + 1) (uI I 420 (50 + i) (tSt T (70 + i))) (by omega) ((uI_off (by omega)).trans h18) (hL.cg (uI_off (by omega)) (fun a _ _ _ _ => uI_off (by omega)) fun _ _ => ⟨rfl, rfl, rfl⟩)
      refine ⟨J, ?_, (Fi.u (A := fun a j => a = 420 ∧ 50 + i ≤ j ∧ j < 50 + tHo T) Fi.rf ⟨rfl, Nat.le_refl _, by omega⟩).tr (f.up fun a j z => ⟨z.1, by omega, by omega⟩), fun k h1 h2 => ?_⟩
      · rw [B_X12_begins_130]
        simp only [gM G, if_true, true_and, h18, xv, xvi, hL.1]
        rw [if_neg (nI_ge (by omega) (by omega))]
        simp only [kv, w, wi, nI_add, y, yi, va, if_true]
        exact e
      · by_cases c : k = i
        · subst c
          exact (f 420 _ (by omega)).trans (uI_same _ _ _ _)
        · exact q k (by omega) h2
  obtain ⟨J1, e1, f1, a1⟩ := lA 58 0 I rfl
  obtain ⟨J2, e2, f2, a2⟩ := lB 19 21 J1 rfl
  have f12 : Fi (fun a _ => a = 420) I J2 := (f1.up fun _ _ z => z.1).tr (f2.up fun _ _ z => z.1)
  obtain ⟨J3, e3, f3, a3⟩ := lC (tLo T) 0 J2 (by omega) ((f12 _ _ (by omega)).trans h18) (hL.cg (f12 _ _ (by omega)) (fun a _ _ _ _ => f12 _ _ (by omega)) fun _ _ => ⟨rfl, rfl, rfl⟩)
  have f13 := f12.tr (f3.up fun _ _ z => z.1)
  obtain ⟨J4, e4, f4, a4⟩ := lD (tSi T) 0 J3 (by omega) ((f13 _ _ (by omega)).trans h18) (hK.cg (f13 _ _ (by omega)) (fun a _ _ _ _ => f13 _ _ (by omega)) fun _ _ => ⟨rfl, rfl⟩)
  have f14 := f13.tr (f4.up fun _ _ z => z.1)
  obtain ⟨J5, e5, f5, a5⟩ := lE (tHo T) 0 J4 (by omega) ((f14 _ _ (by omega)).trans h18) (hH.cg (f14 _ _ (by omega)) (fun a _ _ _ _ => f14 _ _ (by omega)) fun _ _ => ⟨rfl, rfl, rfl⟩)
  have f15 := f14.tr (f5.up fun _ _ z => z.1)
  have j18 : J5 384 18 = nI v := (f15 _ _ (by omega)).trans h18
  refine ⟨uI J5 384 54 (J5 406 v), ?_, fun j hj => ?_, (f15.up fun _ _ z => Or.inl z).tr (Fi.u Fi.rf (Or.inr ⟨rfl, rfl⟩))⟩
  · rw [E_X12_begins, B_X12_begins_0, e1, B_X12_begins_21, e2, B_X12_begins_44, e3, B_X12_begins_85, e4, B_X12_begins_128, e5, B_X12_begins_171]
    simp only [gM G, if_true, true_and, j18, xv, xvi]
  · rw [uI_off (by omega)]
    by_cases c1 : j < 21
    · by_cases c2 : j < tLo T
      · rw [f5 _ _ (by omega), f4 _ _ (by omega), a3 j (Nat.zero_le _) c2, r0_x T c2 c1]
      · rw [f5 _ _ (by omega), f4 _ _ (by omega), f3 _ _ (by omega), f2 _ _ (by omega), a1 j (Nat.zero_le _) hj]
        unfold r0
        rw [if_pos c1, if_neg c2]
    · by_cases c3 : j < 40
      · rw [f5 _ _ (by omega), f4 _ _ (by omega), f3 _ _ (by omega), a2 j (by omega) c3, r0_2 T (by omega) c3]
      · by_cases c4 : j < 40 + tSi T
        · obtain ⟨k, rfl⟩ : ∃ k, j = 40 + k := ⟨j - 40, by omega⟩
          rw [f5 _ _ (by omega), a4 k (Nat.zero_le _) (by omega), r0_p T (by omega) (by omega)]
        · by_cases c5 : j < 50
          · rw [f5 _ _ (by omega), f4 _ _ (by omega), f3 _ _ (by omega), f2 _ _ (by omega), a1 j (Nat.zero_le _) hj]
            unfold r0
            rw [if_neg c1, if_neg c3]
            split <;> first | rfl | rw [if_neg c4] | rw [if_pos c5]
          · by_cases c6 : j < 50 + tHo T
            · obtain ⟨k, rfl⟩ : ∃ k, j = 50 + k := ⟨j - 50, by omega⟩
              rw [a5 k (Nat.zero_le _) (by omega), r0_h T (by omega)]
            · rw [f5 _ _ (by omega), f4 _ _ (by omega), f3 _ _ (by omega), f2 _ _ (by omega), a1 j (Nat.zero_le _) hj]
              unfold r0
              rw [if_neg c1, if_neg c3, if_neg (by omega), if_neg c5, if_neg c6]
