/-! the tape, told, counted: reference side -/
theorem byt_eq (x : Int32) {t : Nat} (ht : t < 4) : (((x >>> (nI (24 - 8 * t) &&& nI 31)).toInt8.toInt32).toInt8.toInt32) = byt x t := by
  have key : (x >>> (nI (24 - 8 * t) &&& nI 31)).toInt8 = ((x.toUInt32 >>> ((nI (24 - 8 * t)).toUInt32 &&& 31)).toInt32).toInt8 := by
    apply Int8.toBitVec_inj.mp
    have go : ∀ (s : Int32) (u : UInt32) (m : Nat), (s.toBitVec.smod 32).toNat = m → u.toBitVec.toNat % 32 = m → m ≤ 24 → (x >>> s).toInt8.toBitVec = ((x.toUInt32 >>> u).toInt32).toInt8.toBitVec := by
      intro s u m h1 h2 h3
      simp only [Int32.toBitVec_toInt8, Int32.toBitVec_shiftRight, UInt32.toBitVec_toInt32, UInt32.toBitVec_shiftRight, Int32.toBitVec_toUInt32]
      apply BitVec.eq_of_getLsbD_eq
      intro i hi
      have hm : i + m < 32 := by omega
      have h1' : (s.toBitVec.smod 32#32).toNat = m := h1
      have h2' : u.toNat % 32 = m := h2
      have hi2 : i < 32 := by omega
      have hq : m + i < 32 := by omega
      rw [BitVec.getLsbD_signExtend, BitVec.getLsbD_signExtend, if_pos hi2, if_pos hi2]
      have p1 : (x.toBitVec.sshiftRight' (s.toBitVec.smod 32)).getLsbD i = x.toBitVec.getLsbD (m + i) := by
        show (x.toBitVec.sshiftRight (s.toBitVec.smod 32#32).toNat).getLsbD i = _
        rw [h1', BitVec.getLsbD_sshiftRight, if_pos hq, decide_eq_false (by omega)]
        rfl
      have p2 : (x.toBitVec >>> (u.toBitVec % 32)).getLsbD i = x.toBitVec.getLsbD (m + i) := by
        show (x.toBitVec >>> (u.toBitVec % 32#32).toNat).getLsbD i = _
        rw [BitVec.getLsbD_ushiftRight, show (u.toBitVec % 32#32).toNat = m from h2]
      rw [p1, p2]
    match t, ht with
    | 0, _ => exact go _ _ 24 (by decide +kernel) (by decide +kernel) (by omega)
    | 1, _ => exact go _ _ 16 (by decide +kernel) (by decide +kernel) (by omega)
    | 2, _ => exact go _ _ 8 (by decide +kernel) (by decide +kernel) (by omega)
    | 3, _ => exact go _ _ 0 (by decide +kernel) (by decide +kernel) (by omega)
  unfold byt
  rw [key]
def XM (I : mI) (tp : Nat) (fp : Int32) (B : Nat → Int32) : Prop := tp ≤ 2000 ∧ I 384 2 = nI tp ∧ I 384 17 = fp ∧ ∀ j, j < tp → I 385 j = B j
theorem m_put (d : Nat) {S : mS} {I : mI} {L : mJ} {tp : Nat} {fp : Int32} {B : Nat → Int32} (G : Gd S) (h : XM I tp fp B) (ht : tp + 4 ≤ 2000) (x : Int32) : ∃ J, evM zcod (d + 1) 157 [.ref 384, .int x] (S, I, L) = some (none, (S, J, L)) ∧ XM J (tp + 4) fp (fed B tp x) ∧ Fi (fun a j => a = 385 ∨ a = 384 ∧ j = 2) I J := by
  have key : ∀ n t, n + t = 4 → ∀ I, I 384 2 = nI (tp + t) → I 384 17 = fp → (∀ j, j < tp → I 385 j = B j) → (∀ j, j < t → I 385 (tp + j) = byt x j) → ∃ J, evk zcod none d zc_X12_put 3 [(0, .ref 384), (1, .int x), (2, .int (nI (8 * n) - nI 8))] [] (S, I, L) = some (none, (S, J, L)) ∧ XM J (tp + 4) fp (fed B tp x) ∧ Fi (fun a j => a = 385 ∨ a = 384 ∧ j = 2) I J := by
    intro n
    induction n with
    | zero =>
      intro t hn I h1 h2 h3 h4
      have e0 : nI (8 * 0) - nI 8 < nI 0 := by decide +kernel
      refine ⟨I, ?_, ⟨ht, by rw [h1, show tp + t = tp + 4 by omega], h2, fun j hj => ?_⟩, Fi.rf⟩
      · rw [B_X12_put_3, if_pos e0, B_X12_put_36]
      · unfold fed
        by_cases c : tp ≤ j
        · rw [if_pos ⟨c, hj⟩, ← h4 (j - tp) (by omega), show tp + (j - tp) = j by omega]
        · rw [if_neg (fun q => c q.1)]
          exact h3 j (by omega)
    | succ n ih =>
      intro t hn I h1 h2 h3 h4
      have e8 : nI (8 * (n + 1)) - nI 8 = nI (8 * n) := by rw [pk_sub (by omega), show 8 * (n + 1) - 8 = 8 * n by omega]
      rw [B_X12_put_3, e8, if_neg (n_pos (n := 8 * n) (by omega))]
      have eb : (((x >>> (nI (8 * n) &&& nI 31)).toInt8.toInt32).toInt8.toInt32) = byt x t := by
        rw [← byt_eq x (t := t) (by omega), show 24 - 8 * t = 8 * n by omega]
      simp only [gM G, if_true, true_and, h1, eb]
      rw [if_pos ((zin_nI (by omega)).mpr (by omega)), zix_nI (by omega)]
      simp only [uI_off (show (384 : Nat) ≠ 385 by omega), h1, nI_add]
      rw [show nI (8 * n) + (-8 : Int32) = nI (8 * n) - nI 8 from sub8 _]
      obtain ⟨J, e, hx, f⟩ := ih (t + 1) (by omega) (uI (uI I 385 (tp + t) (byt x t)) 384 2 (nI (tp + t + 1))) (uI_same _ _ _ _) ((uI_ix (by omega)).trans ((uI_off (by omega)).trans h2)) (fun j hj => (uI_off (by omega)).trans ((uI_ix (by omega)).trans (h3 j hj))) (fun j hj => by
        rw [uI_off (by omega)]
        by_cases c : j = t
        · subst c; exact uI_same _ _ _ _
        · exact (uI_ix (by omega)).trans (h4 j (by omega)))
      exact ⟨J, e, hx, (Fi.u (Fi.u Fi.rf (Or.inl rfl)) (Or.inr ⟨rfl, rfl⟩)).tr f⟩
  obtain ⟨h1, h2, h3, h4⟩ := h
  rw [E_X12_put, B_X12_put_0]
  have e24 : nI 24 = nI (8 * 4) - nI 8 := by decide +kernel
  rw [e24]
  exact key 4 0 (by omega) I h2 h3 h4 (fun j hj => absurd hj (Nat.not_lt_zero j))
theorem q_feed (d : Nat) {S : mS} {I : mI} {L : mJ} {tp : Nat} {fp : Int32} {B : Nat → Int32} (G : Gd S) (h : XM I tp fp B) (x1 x2 x3 x4 x5 : Int32) : ∃ J, evM zcod (d + 2) 156 [.ref 384, .int x1, .int x2, .int x3, .int x4, .int x5] (S, I, L) = some (some (.int (if tp ≤ 1980 then nI (tp + 20) else -1)), (S, J, L)) ∧ (if tp ≤ 1980 then XM J (tp + 20) fp (fed5 B tp x1 x2 x3 x4 x5) else XM J tp fp B) ∧ Fi (fun a j => a = 385 ∨ a = 384 ∧ j = 2) I J := by
  rw [E_X12_feed]
  simp only [B_X12_feed_0, gM G, if_true, h.2.1, nI_add]
  by_cases c : tp ≤ 1980
  · obtain ⟨J1, e1, h1, f1⟩ := m_put d (L := L) G h (by omega) x1
    obtain ⟨J2, e2, h2, f2⟩ := m_put d (L := L) G h1 (by omega) x2
    obtain ⟨J3, e3, h3, f3⟩ := m_put d (L := L) G h2 (by omega) x3
    obtain ⟨J4, e4, h4, f4⟩ := m_put d (L := L) G h3 (by omega) x4
    obtain ⟨J5, e5, h5, f5⟩ := m_put d (L := L) G h4 (by omega) x5
    rw [if_pos (nI_le (by omega) (by omega)), if_pos c]
    refine ⟨J5, ?_, by rw [if_pos c]; exact h5, f1.tr (f2.tr (f3.tr (f4.tr f5)))⟩
    rw [B_X12_feed_15]
    simp only [gM G, if_true, e1, e2, e3, e4, bV_eq, B_X12_feed_36, e5, h5.2.1]
  · rw [if_neg (nI_ge (by omega) (by have := h.1; omega)), if_neg c]
    exact ⟨I, rfl, by rw [if_neg c]; exact h, Fi.rf⟩
theorem q_back (d : Nat) {S : mS} {I : mI} {L : mJ} {tp : Nat} {fp : Int32} {B : Nat → Int32} (G : Gd S) (h : XM I tp fp B) (n : Int32) : ∃ J, evM zcod (d + 2) 158 [.ref 384, .int n] (S, I, L) = some (some (.int (if baOk tp n = true then nI (tp - n.toInt.toNat) else -1)), (S, J, L)) ∧ (if baOk tp n = true then XM J (tp - n.toInt.toNat) fp B else XM J tp fp B) ∧ Fi (fun a j => a = 385 ∨ a = 384 ∧ j = 2) I J := by
  have h1 := h.1
  rw [E_X12_back]
  simp only [B_X12_back_0, B_X12_back_12, gM G, if_true, h.2.1]
  unfold baOk
  cases c : okI n (nI 0) (nI tp)
  · have c' := of_decide_eq_false c
    simp only [Bool.false_eq_true, if_false]
    refine ⟨I, ?_, h, Fi.rf⟩
    by_cases c2 : n < nI 0
    · rw [if_pos c2]
    · rw [if_neg c2, if_neg (fun q => c' ⟨by rw [i_lt] at c2; rw [i_le]; omega, q⟩)]
  · obtain ⟨k, hk, rfl⟩ := okI_n c (by omega)
    rw [if_neg (n_pos (n := k) (by omega)), if_pos (nI_le hk (by omega))]
    simp only [if_true, B_X12_back_14, gM G, h.2.1, t_nI (show k < 2147483648 by omega), Int.toNat_natCast, pk_sub hk, uI_same]
    exact ⟨_, rfl, ⟨by omega, uI_same _ _ _ _, (uI_ix (by omega)).trans h.2.2.1, fun j hj => (uI_off (by omega)).trans (h.2.2.2 j (by omega))⟩, Fi.u Fi.rf (Or.inr ⟨rfl, rfl⟩)⟩
theorem q_place (d : Nat) {S : mS} {I : mI} {L : mJ} {tp : Nat} {fp : Int32} {B : Nat → Int32} (G : Gd S) (h : XM I tp fp B) : evM zcod (d + 1) 174 [.ref 384] (S, I, L) = some (some (.int fp), (S, I, L)) := by
  rw [E_X12_place]
  simp only [B_X12_place_0, gM G, if_true, h.2.2.1]
theorem q_forget (d : Nat) {S : mS} {I : mI} {L : mJ} {T : Nat → Nat → Int32} {nt : Nat} (G : Gd S) (h : TM I T nt) : evM zcod (d + 1) 254 [.ref 384] (S, I, L) = some (some (.int (nI nt)), (S, uI I 384 74 (nI 0), L)) := by
  rw [E_X12_forget]
  simp only [B_X12_forget_0, gM G, if_true, h.1]
