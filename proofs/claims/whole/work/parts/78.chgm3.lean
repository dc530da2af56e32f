/-! undo, hold, restore, tell, forget: reference side -/
theorem q_undo (d : Nat) {S : mS} {I : mI} {L : mJ} {P : mP} {v : Nat} {r : mW} {H : Nat → mW} {dp : Nat} {Q : Nat → mW} {hd : Nat → Bool} {T : Nat → Nat → Int32} {nt : Nat} (G : Gd S) (z : ZM S I P v r H dp Q hd T nt) : ∃ J, evM zcod (d + 1) 230 [.ref 384] (S, I, L) = some (some (.int (if dp = 0 then nI 0 else nI 1)), (S, J, L)) ∧ (if dp = 0 then ZM S J P v r H dp Q hd T nt else ZM S J P v (H 0) (fun i => H (i + 1)) (dp - 1) Q hd T nt) ∧ Fi chM I J := by
  have z' := z
  obtain ⟨hv, hr, h, n, ⟨h1, h2, h3⟩, -, -, -, hh, -⟩ := z'
  have copy : ∀ dq, dq < 40 → ∀ n l, n + l = 58 → ∀ I : mI, I 384 59 = nI dq → (∀ j, j < l → I 419 j = I 425 (58 * dq + j)) → ∃ J, evk zcod none d zc_X12_undo 21 [(0, .ref 384), (1, .int (nI l))] [] (S, I, L) = some (some (.int (nI 1)), (S, J, L)) ∧ (∀ j, j < 58 → J 419 j = I 425 (58 * dq + j)) ∧ Fi (fun a j => a = 419) I J := by
    intro dq hq n
    induction n with
    | zero =>
      intro l hl I h9 hj
      refine ⟨I, ?_, fun j q1 => hj j (by omega), Fi.rf⟩
      rw [B_X12_undo_21, if_pos (nI_le (by omega) (by omega)), B_X12_undo_53]
    | succ n ih =>
      intro l hl I h9 hj
      obtain ⟨J, e, z1, z2⟩ := ih (l + 1) (by omega) (uI I 419 l (I 425 (58 * dq + l))) ((uI_off (by omega)).trans h9) (fun j q => by
        rw [uI_off (show (425 : Nat) ≠ 419 by omega)]
        by_cases w : j = l
        · rw [w]; exact uI_same _ _ _ _
        · rw [uI_ix w]; exact hj j (by omega))
      refine ⟨J, ?_, fun j q1 => (z1 j q1).trans (uI_off (by omega)), (Fi.u (A := fun a _ => a = 419) Fi.rf rfl).tr z2⟩
      rw [B_X12_undo_21, if_neg (nI_ge (by omega) (by omega))]
      simp only [gM G, if_true, true_and, h9, pk_mul, nI_add]
      rw [if_pos (ixP (by omega) (by omega)), if_pos (ixP (by omega) (by omega)), ixI (by omega), ixI (by omega)]
      exact e
  rw [E_X12_undo]
  simp only [B_X12_undo_0, gM G, if_true, h2]
  by_cases c : dp = 0
  · subst c
    rw [if_neg (fun w => w rfl)]
    exact ⟨I, rfl, by rw [if_pos rfl]; exact z, Fi.rf⟩
  · rw [if_pos (fun w => c ((nI_eq (by omega) (by omega)).mp w)), if_neg c, B_X12_undo_9]
    simp only [gM G, if_true, h2, pk_sub (show 1 ≤ dp by omega)]
    obtain ⟨J, e, z1, z2⟩ := copy (dp - 1) (by omega) 58 0 (by omega) (uI I 384 59 (nI (dp - 1))) (uI_same _ _ _ _) (fun j q => absurd q (Nat.not_lt_zero j))
    have f : Fi chM I J := (Fi.u (A := chM) Fi.rf (by unfold chM mj; omega)).tr (z2.up fun a j q => by unfold chM; omega)
    refine ⟨J, e, ?_, f⟩
    rw [if_neg c]
    refine z.ch (hh 0 (by omega)) (fun j hj => ?_) ⟨by omega, (z2 _ _ (by omega)).trans (uI_same _ _ _ _), fun i hi k hk => ?_⟩ (fun i hi => hh (i + 1) (by omega)) f
    · rw [z1 j hj, uI_off (by omega), ← h3 0 (by omega) j hj, show dp - 1 - 0 = dp - 1 by omega]
    · show J 425 _ = H (i + 1) k
      rw [z2 425 _ (by omega), uI_off (by omega), ← h3 (i + 1) (by omega) k hk, show dp - 1 - 1 - i = dp - 1 - (i + 1) by omega]
theorem in3 {s : Int32} : okI s (nI 0) (nI 2) = inN s 3 := okI_has (n := 3) (by omega)
theorem q_hold (d : Nat) {S : mS} {I : mI} {L : mJ} {P : mP} {v : Nat} {r : mW} {H : Nat → mW} {dp : Nat} {Q : Nat → mW} {hd : Nat → Bool} {T : Nat → Nat → Int32} {nt : Nat} (G : Gd S) (z : ZM S I P v r H dp Q hd T nt) (s : Int32) : ∃ J, evM zcod (d + 2) 259 [.ref 384, .int s] (S, I, L) = some (some (.int (if inN s 3 = true then nI 1 else nI 0)), (S, J, L)) ∧ (if inN s 3 = true then ZM S J P v r H dp (Qp Q s.toInt.toNat r) (hdS hd s.toInt.toNat) T nt else ZM S J P v r H dp Q hd T nt) ∧ Fi (fun a _ => a = 435 ∨ a = 436) I J := by
  have z' := z
  obtain ⟨hv, hr, h, n, hH, hS, hT, ht, hh, hq⟩ := z'
  have copy : ∀ s, s < 3 → ∀ n l, n + l = 58 → ∀ I : mI, NW I r → (∀ j, j < l → I 436 (58 * s + j) = r j) → ∃ J, evk zcod none (d + 1) zc_X12_hold 20 [(0, .ref 384), (1, .int (nI s)), (2, .int (nI l))] [] (S, I, L) = some (some (.int (nI 1)), (S, J, L)) ∧ (∀ j, j < 58 → J 436 (58 * s + j) = r j) ∧ Fi (fun a j => a = 436 ∧ 58 * s ≤ j ∧ j < 58 * s + 58) I J := by
    intro s hs n
    induction n with
    | zero =>
      intro l hl I h9 hj
      refine ⟨I, ?_, fun j q1 => hj j (by omega), Fi.rf⟩
      rw [B_X12_hold_20, if_pos (nI_le (by omega) (by omega)), B_X12_hold_49]
    | succ n ih =>
      intro l hl I h9 hj
      obtain ⟨J, e, z1, z2⟩ := ih (l + 1) (by omega) (uI I 436 (58 * s + l) (r l)) (fun j q => (uI_off (by omega)).trans (h9 j q)) (fun j q => by
        by_cases w : j = l
        · rw [w]; exact uI_same _ _ _ _
        · rw [uI_ix (by omega)]; exact hj j (by omega))
      refine ⟨J, ?_, z1, (Fi.u (A := fun a j => a = 436 ∧ 58 * s ≤ j ∧ j < 58 * s + 58) Fi.rf ⟨rfl, by omega, by omega⟩).tr z2⟩
      rw [B_X12_hold_20, if_neg (nI_ge (by omega) (by omega))]
      simp only [gM G, if_true, true_and, pk_mul, nI_add]
      rw [if_pos (ixP (by omega) (by omega)), if_pos (ixP (by omega) (by omega)), ixI (by omega), ixI (by omega), h9 l (by omega)]
      exact e
  rw [E_X12_hold]
  simp only [B_X12_hold_0, m_in, bI_eq, if_true, in3]
  by_cases c : inN s 3 = true
  · obtain ⟨k, hk, rfl⟩ := inN_of c
    simp only [c, if_true, n10, not_false_eq_true, B_X12_hold_11, gM G, true_and, t_nI (show k < 2147483648 by omega), Int.toNat_natCast]
    rw [if_pos (ixP hk (by omega)), ixI (by omega), show nI 1 &&& nI 1 = nI 1 by decide +kernel]
    obtain ⟨J, e, z1, z2⟩ := copy k hk 58 0 (by omega) (uI I 435 k (nI 1)) (fun j q => (uI_off (by omega)).trans (n j q)) (fun j q => absurd q (Nat.not_lt_zero j))
    have f : Fi (fun a _ => a = 435 ∨ a = 436) I J := (Fi.u (A := fun a _ => a = 435 ∨ a = 436) Fi.rf (Or.inl rfl)).tr (z2.up fun a j q => Or.inr q.1)
    have e' : ∀ a j, a < 435 → J a j = I a j := fun a j q => f a j (by omega)
    have er : ∀ a, a < 435 → J a = I a := fun a q => f.row a fun j => by omega
    refine ⟨J, e, ⟨hv, hr, ?_, fun j q => (e' _ _ (by omega)).trans (n j q), hH.cg (fun j => e' _ _ (by omega)) (e' _ _ (by omega)), ⟨fun s hs => ?_, fun s hs q j hj => ?_⟩, hT, ht.cg (e' _ _ (by omega)) (fun x j p q => e' _ _ (by omega)), hh, fun s hs q => ?_⟩, f⟩
    · obtain ⟨q1, q2, q3, q4, q5, q6, q7, q8, q9, q10, q11, q12⟩ := h
      rw [← er 384 (by omega)] at q2
      refine ⟨q1, q2, ?_, ?_, ?_, ?_, ?_, ?_, fun i hi => ?_, fun k hk => ?_, fun k hk => ?_, fun k hk K d L w1 w2 => q12 k hk K d L (w1.trans (e' _ _ (by omega))) fun a p1 p2 => (w2 a p1 p2).trans (er a (by omega))⟩
      · rw [er _ (by omega)]; exact q3
      · rw [er _ (by omega)]; exact q4
      · rw [er _ (by omega)]; exact q5
      · rw [er _ (by omega)]; exact q6
      · rw [er _ (by omega)]; exact q7
      · rw [er _ (by omega)]; exact q8
      · rw [er _ (by omega), er _ (by omega)]; exact q9 i hi
      · rw [er _ (by omega)]; exact q10 k hk
      · rw [er _ (by omega), er _ (by omega)]; exact q11 k hk
    · unfold hdS
      rw [z2 435 _ (by omega)]
      by_cases w : s = k
      · subst w
        rw [uI_same, decide_eq_true rfl]
        rfl
      · rw [uI_ix w, decide_eq_false w]
        simpa using hS.1 s hs
    · unfold Qp
      by_cases w : s = k
      · subst w
        rw [if_pos rfl]
        exact z1 j hj
      · rw [if_neg w, z2 436 _ (by omega), uI_off (by omega)]
        unfold hdS at q
        rw [decide_eq_false w] at q
        exact hS.2 s hs (by simpa using q) j hj
    · unfold Qp
      by_cases w : s = k
      · rw [if_pos w]; exact hr
      · rw [if_neg w]
        unfold hdS at q
        rw [decide_eq_false w] at q
        exact hq s hs (by simpa using q)
  · have c' : inN s 3 = false := by simpa using c
    simp only [c', Bool.false_eq_true, if_false, not_true_eq_false]
    exact ⟨I, rfl, z, Fi.rf⟩
theorem q_restore (d : Nat) {S : mS} {I : mI} {L : mJ} {P : mP} {v : Nat} {r : mW} {H : Nat → mW} {dp : Nat} {Q : Nat → mW} {hd : Nat → Bool} {T : Nat → Nat → Int32} {nt : Nat} (G : Gd S) (z : ZM S I P v r H dp Q hd T nt) (s : Int32) : ∃ J, evM zcod (d + 2) 260 [.ref 384, .int s] (S, I, L) = some (some (.int (if reOk hd s = true then nI 1 else nI 0)), (S, J, L)) ∧ (if reOk hd s = true then ZM S J P v (Q s.toInt.toNat) H 0 Q hd T nt else ZM S J P v r H dp Q hd T nt) ∧ Fi chM I J := by
  have z' := z
  obtain ⟨hv, hr, h, n, hH, hS, hT, ht, hh, hq⟩ := z'
  have copy : ∀ s, s < 3 → ∀ n l, n + l = 58 → ∀ I : mI, (∀ j, j < l → I 419 j = I 436 (58 * s + j)) → ∃ J, evk zcod none (d + 1) zc_X12_restore 22 [(0, .ref 384), (1, .int (nI s)), (2, .int (nI l))] [] (S, I, L) = some (some (.int (nI 1)), (S, J, L)) ∧ (∀ j, j < 58 → J 419 j = I 436 (58 * s + j)) ∧ J 384 59 = nI 0 ∧ Fi (fun a j => a = 419 ∨ a = 384 ∧ j = 59) I J := by
    intro s hs n
    induction n with
    | zero =>
      intro l hl I hj
      refine ⟨uI I 384 59 (nI 0), ?_, fun j q1 => (uI_off (by omega)).trans (hj j (by omega)), uI_same _ _ _ _, Fi.u Fi.rf (Or.inr ⟨rfl, rfl⟩)⟩
      rw [B_X12_restore_22, if_pos (nI_le (by omega) (by omega)), B_X12_restore_51]
      simp only [gM G, if_true]
    | succ n ih =>
      intro l hl I hj
      obtain ⟨J, e, z1, z3, z2⟩ := ih (l + 1) (by omega) (uI I 419 l (I 436 (58 * s + l))) (fun j q => by
        rw [uI_off (show (436 : Nat) ≠ 419 by omega)]
        by_cases w : j = l
        · rw [w]; exact uI_same _ _ _ _
        · rw [uI_ix w]; exact hj j (by omega))
      refine ⟨J, ?_, fun j q1 => (z1 j q1).trans (uI_off (by omega)), z3, (Fi.u (A := fun a j => a = 419 ∨ a = 384 ∧ j = 59) Fi.rf (Or.inl rfl)).tr z2⟩
      rw [B_X12_restore_22, if_neg (nI_ge (by omega) (by omega))]
      simp only [gM G, if_true, true_and, pk_mul, nI_add]
      rw [if_pos (ixP (by omega) (by omega)), if_pos (ixP (by omega) (by omega)), ixI (by omega), ixI (by omega)]
      exact e
  rw [E_X12_restore]
  simp only [B_X12_restore_0, m_in, bI_eq, if_true, in3]
  unfold reOk
  by_cases c : inN s 3 = true
  · obtain ⟨k, hk, rfl⟩ := inN_of c
    simp only [c, if_true, n10, if_false, gM G, true_and, t_nI (show k < 2147483648 by omega), Int.toNat_natCast, Bool.true_and]
    rw [if_pos (ixP hk (by omega)), ixI (by omega), hS.1 k hk]
    cases c2 : hd k
    · simp only [Bool.false_eq_true, if_false, not_true_eq_false]
      exact ⟨I, B_X12_restore_18 .., z, Fi.rf⟩
    · simp only [if_true, n10, not_false_eq_true, B_X12_restore_20]
      obtain ⟨J, e, z1, z3, z2⟩ := copy k hk 58 0 (by omega) I (fun j q => absurd q (Nat.not_lt_zero j))
      have f : Fi chM I J := z2.up fun a j q => by unfold chM; omega
      exact ⟨J, e, z.ch (hq k hk c2) (fun j hj => (z1 j hj).trans (hS.2 k hk c2 j hj)) ⟨by omega, z3, fun i hi => absurd hi (Nat.not_lt_zero i)⟩ (fun i hi => absurd hi (Nat.not_lt_zero i)) f, f⟩
  · have c' : inN s 3 = false := by simpa using c
    simp only [c', Bool.false_eq_true, if_false, if_true, Bool.false_and]
    exact ⟨I, B_X12_restore_18 .., z, Fi.rf⟩
