/-! what changes the row, reference side -/
def HM (I : mI) (H : Nat → mW) (dp : Nat) : Prop := dp ≤ 40 ∧ I 384 59 = nI dp ∧ ∀ i, i < dp → ∀ k, k < 58 → I 425 (58 * (dp - 1 - i) + k) = H i k
def SM (I : mI) (Q : Nat → mW) (hd : Nat → Bool) : Prop := (∀ s, s < 3 → I 435 s = if hd s = true then nI 1 else nI 0) ∧ ∀ s, s < 3 → hd s = true → ∀ k, k < 58 → I 436 (58 * s + k) = Q s k
def ZM (S : mS) (I : mI) (P : mP) (v : Nat) (r : mW) (H : Nat → mW) (dp : Nat) (Q : Nat → mW) (hd : Nat → Bool) (T : Nat → Nat → Int32) (nt : Nat) : Prop := PV P ∧ RV P r ∧ MC S I P v ∧ NW I r ∧ HM I H dp ∧ SM I Q hd ∧ TV T nt ∧ TM I T nt ∧ (∀ i, i < dp → RV P (H i)) ∧ ∀ s, s < 3 → hd s = true → RV P (Q s)
theorem HM.cg {I J : mI} {H : Nat → mW} {dp : Nat} (h : HM I H dp) (e : ∀ j, J 425 j = I 425 j) (e1 : J 384 59 = I 384 59) : HM J H dp := ⟨h.1, e1.trans h.2.1, fun i hi k hk => (e _).trans (h.2.2 i hi k hk)⟩
theorem SM.cg {I J : mI} {Q : Nat → mW} {hd : Nat → Bool} (h : SM I Q hd) (e : ∀ j, J 435 j = I 435 j) (e1 : ∀ j, J 436 j = I 436 j) : SM J Q hd := ⟨fun s hs => (e s).trans (h.1 s hs), fun s hs q k hk => (e1 _).trans (h.2 s hs q k hk)⟩
theorem TM.cg {I J : mI} {T : Nat → Nat → Int32} {nt : Nat} (h : TM I T nt) (e : J 384 74 = I 384 74) (e1 : ∀ x j, 430 ≤ x → x ≤ 434 → J x j = I x j) : TM J T nt := ⟨e.trans h.1, fun i hi => by
  obtain ⟨h1, h2, h3, h4, h5⟩ := h.2 i hi
  exact ⟨(e1 _ _ (by omega) (by omega)).trans h1, (e1 _ _ (by omega) (by omega)).trans h2, (e1 _ _ (by omega) (by omega)).trans h3, (e1 _ _ (by omega) (by omega)).trans h4, (e1 _ _ (by omega) (by omega)).trans h5⟩⟩
theorem ZM.fi {S : mS} {I J : mI} {P : mP} {v : Nat} {r : mW} {H : Nat → mW} {dp : Nat} {Q : Nat → mW} {hd : Nat → Bool} {T : Nat → Nat → Int32} {nt : Nat} (h : ZM S I P v r H dp Q hd T nt) (f : Fi mj I J) : ZM S J P v r H dp Q hd T nt := by
  obtain ⟨h1, h2, h3, h4, h5, h6, h7, h8, h9⟩ := h
  exact ⟨h1, h2, h3.fi f, h4.fi f, h5.cg (fun j => f _ _ (by unfold mj; omega)) (f _ _ (by unfold mj; omega)), h6.cg (fun j => f _ _ (by unfold mj; omega)) (fun j => f _ _ (by unfold mj; omega)), h7, h8.cg (f _ _ (by unfold mj; omega)) (fun x j p q => f _ _ (by unfold mj; omega)), h9⟩
/-- what the row's changes may touch -/
def chM (a j : Nat) : Prop := mj a j ∨ a = 419 ∨ a = 425 ∨ a = 384 ∧ j = 59
theorem MC.ch {S : mS} {I J : mI} {P : mP} {v : Nat} (h : MC S I P v) (f : Fi chM I J) : MC S J P v := by
  have v0 := h
  obtain ⟨h1, h2, h3, h4, h5, h6, h7, h8, h9, h10, h11, h12⟩ := h
  have e : ∀ a, 393 ≤ a → a ≤ 415 → J a = I a := fun a q1 q2 => f.row a fun j => by unfold chM mj; omega
  refine ⟨h1, (f 384 18 (by unfold chM mj; omega)).trans h2, ?_, ?_, ?_, ?_, ?_, ?_, fun i hi => ?_, fun k hk => ?_, fun k hk => ?_, fun k hk K d L q1 q2 => h12 k hk K d L (q1.trans (f 384 18 (by unfold chM mj; omega))) fun a p1 p2 => (q2 a p1 p2).trans (e a (by omega) (by omega))⟩
  · rw [e _ (by omega) (by omega)]; exact h3
  · rw [e _ (by omega) (by omega)]; exact h4
  · rw [e _ (by omega) (by omega)]; exact h5
  · rw [e _ (by omega) (by omega)]; exact h6
  · rw [e _ (by omega) (by omega)]; exact h7
  · rw [e _ (by omega) (by omega)]; exact h8
  · rw [e _ (by omega) (by omega), e _ (by omega) (by omega)]; exact h9 i hi
  · rw [e _ (by omega) (by omega)]; exact h10 k hk
  · rw [e _ (by omega) (by omega), e _ (by omega) (by omega)]; exact h11 k hk
theorem m_records (d : Nat) {S : mS} {I : mI} {L : mJ} {r q : mW} {H : Nat → mW} {dp : Nat} (G : Gd S) (n : NW I r) (hr : RW I q) (h : HM I H dp) : ∃ J, evM zcod (d + 2) 223 [.ref 384] (S, I, L) = some (none, (S, J, L)) ∧ HM J (pu r H) (min (dp + 1) 40) ∧ NW J q ∧ Fi (fun a j => a = 419 ∨ a = 425 ∨ a = 384 ∧ j = 59) I J := by
  have shift : ∀ n l, n + l = 2262 → ∀ I : mI, ∃ J, evk zcod none (d + 1) zc_X12_records 11 [(0, .ref 384), (1, .int (nI l))] [] (S, I, L) = evk zcod none (d + 1) zc_X12_records 39 [(0, .ref 384)] [] (S, J, L) ∧ (∀ j, l ≤ j → j < 2262 → J 425 j = I 425 (j + 58)) ∧ Fi (fun a j => a = 425 ∧ l ≤ j ∧ j < 2262) I J := by
    intro n
    induction n with
    | zero =>
      intro l hl I
      refine ⟨I, ?_, fun j q1 q2 => by omega, Fi.rf⟩
      rw [B_X12_records_11, if_pos (nI_le (by omega) (by omega))]
    | succ n ih =>
      intro l hl I
      obtain ⟨J, e, z1, z2⟩ := ih (l + 1) (by omega) (uI I 425 l (I 425 (l + 58)))
      refine ⟨J, ?_, fun j q1 q2 => ?_, (Fi.u (A := fun a j => a = 425 ∧ l ≤ j ∧ j < 2262) Fi.rf ⟨rfl, by omega, by omega⟩).tr (z2.up fun a j w => by omega)⟩
      · rw [B_X12_records_11, if_neg (nI_ge (by omega) (by omega))]
        simp only [gM G, if_true, true_and, nI_add]
        rw [if_pos (ixP (by omega) (by omega)), if_pos (ixP (by omega) (by omega)), ixI (by omega), ixI (by omega)]
        exact e
      · by_cases w : j = l
        · subst w
          exact (z2 425 j (by omega)).trans (uI_same _ _ _ _)
        · exact (z1 j (by omega) q2).trans (uI_ix (by omega))
  have copy : ∀ dq, dq < 40 → ∀ n l, n + l = 58 → ∀ I : mI, I 384 59 = nI dq → ∃ J, evk zcod none (d + 1) zc_X12_records 51 [(0, .ref 384), (1, .int (nI l))] [] (S, I, L) = evk zcod none (d + 1) zc_X12_records 83 [(0, .ref 384)] [] (S, J, L) ∧ (∀ j, l ≤ j → j < 58 → J 425 (58 * dq + j) = I 419 j) ∧ Fi (fun a j => a = 425 ∧ 58 * dq + l ≤ j ∧ j < 58 * dq + 58) I J := by
    intro dq hq n
    induction n with
    | zero =>
      intro l hl I h9
      refine ⟨I, ?_, fun j q1 q2 => by omega, Fi.rf⟩
      rw [B_X12_records_51, if_pos (nI_le (by omega) (by omega))]
    | succ n ih =>
      intro l hl I h9
      obtain ⟨J, e, z1, z2⟩ := ih (l + 1) (by omega) (uI I 425 (58 * dq + l) (I 419 l)) ((uI_off (by omega)).trans h9)
      have f0 : Fi (fun a j => a = 425 ∧ 58 * dq + l ≤ j ∧ j < 58 * dq + 58) I (uI I 425 (58 * dq + l) (I 419 l)) := Fi.u Fi.rf ⟨rfl, by omega, by omega⟩
      refine ⟨J, ?_, fun j q1 q2 => ?_, f0.tr (z2.up fun a j w => by omega)⟩
      · rw [B_X12_records_51, if_neg (nI_ge (by omega) (by omega))]
        simp only [gM G, if_true, true_and, h9, pk_mul, nI_add]
        rw [if_pos (ixP (by omega) (by omega)), if_pos (ixP (by omega) (by omega)), ixI (by omega), ixI (by omega)]
        exact e
      · by_cases w : j = l
        · subst w
          exact (z2 425 _ (by omega)).trans (uI_same _ _ _ _)
        · exact (z1 j (by omega) q2).trans (uI_off (by omega))
  have fin : ∀ dq, dq < 40 → ∀ I : mI, NW I r → RW I q → I 384 59 = nI dq → (∀ i, i < dq → ∀ k, k < 58 → I 425 (58 * (dq - 1 - i) + k) = H i k) → ∃ J, evk zcod none (d + 1) zc_X12_records 49 [(0, .ref 384)] [] (S, I, L) = some (none, (S, J, L)) ∧ HM J (pu r H) (dq + 1) ∧ NW J q ∧ Fi (fun a j => a = 419 ∨ a = 425 ∨ a = 384 ∧ j = 59) I J := by
    intro dq hq I n hr h9 hH
    obtain ⟨J, e, z1, z2⟩ := copy dq hq 58 0 (by omega) I h9
    have h9' : J 384 59 = nI dq := (z2 _ _ (by omega)).trans h9
    let J1 := uI J 384 59 (nI (dq + 1))
    have r1 : RW J1 q := fun j w => (uI_off (by omega)).trans ((z2 _ _ (by omega)).trans (hr j w))
    obtain ⟨K, e2, n2, f2⟩ := m_keeps d (L := L) G r1
    refine ⟨K, ?_, ⟨by omega, (f2 _ _ (by omega)).trans (uI_same _ _ _ _), fun i hi k hk => ?_⟩, n2, ((z2.up fun a j w => Or.inr (Or.inl w.1)).tr (Fi.u (A := fun a j => a = 419 ∨ a = 425 ∨ a = 384 ∧ j = 59) Fi.rf (Or.inr (Or.inr ⟨rfl, rfl⟩)))).tr (f2.up fun a j w => Or.inl w)⟩
    · rw [B_X12_records_49, e, B_X12_records_83]
      simp only [gM G, if_true, h9', nI_add]
      rw [show uI J 384 59 (nI (dq + 1)) = J1 from rfl, e2, bV_eq, if_pos rfl]
    · have k0 : ∀ j, K 425 j = J 425 j := fun j => (f2 _ _ (by omega)).trans (uI_off (by omega))
      rw [k0]
      match i, hi with
      | 0, _ =>
        rw [show dq + 1 - 1 - 0 = dq by omega]
        exact (z1 k (by omega) hk).trans (n k hk)
      | i + 1, hi =>
        rw [show dq + 1 - 1 - (i + 1) = dq - 1 - i by omega]
        exact (z2 _ _ (by omega)).trans (hH i (by omega) k hk)
  obtain ⟨h1, h2, h3⟩ := h
  rw [E_X12_records]
  simp only [B_X12_records_0, gM G, if_true, h2]
  by_cases c : dp = 40
  · subst c
    rw [if_neg (fun w => w rfl)]
    obtain ⟨J, e, z1, z2⟩ := shift 2262 0 (by omega) I
    let J1 := uI J 384 59 (nI 39)
    obtain ⟨K, e2, hh, n2, f2⟩ := fin 39 (by omega) J1 (fun j w => (uI_off (by omega)).trans ((z2 _ _ (by omega)).trans (n j w))) (fun j w => (uI_off (by omega)).trans ((z2 _ _ (by omega)).trans (hr j w))) (uI_same _ _ _ _) (fun i hi k hk => by
      show uI J 384 59 (nI 39) 425 _ = _
      rw [uI_off (by omega), z1 _ (by omega) (by omega), show 58 * (39 - 1 - i) + k + 58 = 58 * (40 - 1 - i) + k by omega]
      exact h3 i (by omega) k hk)
    refine ⟨K, ?_, hh, n2, ((z2.up fun a j w => Or.inr (Or.inl w.1)).tr (Fi.u (A := fun a j => a = 419 ∨ a = 425 ∨ a = 384 ∧ j = 59) Fi.rf (Or.inr (Or.inr ⟨rfl, rfl⟩)))).tr f2⟩
    have h9' : J 384 59 = nI 40 := (z2 _ _ (by omega)).trans h2
    rw [show (nI 0) = nI 0 from rfl, e, B_X12_records_39]
    simp only [gM G, if_true, h9', pk_sub (show 1 ≤ 40 by omega)]
    exact e2
  · rw [if_pos (fun w => c ((nI_eq (by omega) (by omega)).mp w)), show min (dp + 1) 40 = dp + 1 by omega]
    exact fin dp (by omega) I n hr h2 h3
