/-! tokens, class side: ints, signs, the scan -/
theorem s_digLoop (d : Nat) {S : mS} {L : mJ} (G : Gd S) (z : kR S 32 5 = 8) {tp q : Nat} (htp : tp ≤ 2000) : ∀ (n m : Nat) (I : mI) (x : Int32), tp - (q + m) ≤ n → q + m ≤ tp → I 32 6 = nI tp → I 32 7 = nI (q + m) → (∀ j, j < m → isD (bC (I 8) tp (q + j))) → (m ≤ 4 → x = nI (dv (bC (I 8) tp) q m)) → ∃ m' J x', m ≤ m' ∧ q + m' ≤ tp ∧ (∀ j, j < m' → isD (bC (I 8) tp (q + j))) ∧ ¬ isD (bC (I 8) tp (q + m')) ∧ (m' ≤ 4 → x' = nI (dv (bC (I 8) tp) q m')) ∧ evk zcod none (d + 1) zc_X10_scanDigits 7 [(0, .ref 32), (1, .int (nI q)), (2, .int x)] [] (S, I, L) = evk zcod none (d + 1) zc_X10_scanDigits 62 [(0, .ref 32), (1, .int (nI q)), (2, .int x')] [] (S, J, L) ∧ Fi scF I J ∧ J 32 7 = nI (q + m') := by
  intro n
  induction n with
  | zero =>
    intro m I x hn hm h6 h7 hl hx
    refine ⟨m, I, x, Nat.le_refl _, hm, hl, ?_, hx, ?_, Fi.rf, h7⟩
    · rw [bC_out (by omega)]
      omega
    · rw [B_X10_scanDigits_7]
      simp only [gRd G, if_true, h6, h7]
      rw [if_pos (nI_le (by omega) (by omega))]
  | succ n ih =>
    intro m I x hn hm h6 h7 hl hx
    by_cases c0 : q + m < tp
    · have e42 := s_byteAt d (L := L) (I := I) G z h6 htp (i := q + m) (by omega)
      have e45 := s_isD d (S := S) (I := I) (L := L) (bC_lt (I 8) tp (q + m))
      by_cases c : isD (bC (I 8) tp (q + m))
      · let J := uI I 32 7 (nI (q + m + 1))
        have f : Fi scF I J := Fi.u Fi.rf ⟨rfl, rfl⟩
        have r8 : J 8 = I 8 := f.row 8 fun j => by unfold scF; omega
        obtain ⟨m', J2, x', a1, a2, a3, a4, a5, a6, a7, a8⟩ := ih (m + 1) J (x * nI 10 + nI (bC (I 8) tp (q + m) - 48)) (by omega) (by omega) ((uI_ix (by omega)).trans h6) (uI_same _ _ _ _) (fun j hj => by
          rw [r8]
          by_cases w : j = m
          · rw [w]; exact c
          · exact hl j (by omega)) (fun hm8 => by
          rw [r8, hx (by omega), pk_mul, nI_add]
          rfl)
        rw [r8] at a3 a4 a5
        refine ⟨m', J2, x', by omega, a2, a3, a4, a5, ?_, f.tr a7, a8⟩
        refine Eq.trans ?_ a6
        rw [B_X10_scanDigits_7]
        simp only [gRd G, if_true, h6, h7]
        rw [if_neg (nI_ge c0 (by omega))]
        simp only [e42, bI_eq, if_true, e45, if_pos c, z10, if_false, h7, nI_add, dig_v _ (by have := c.2; omega) c.1]
        rw [B_X10_scanDigits_59]
        simp only [gRd G, if_true]
        rfl
      · refine ⟨m, I, x, Nat.le_refl _, hm, hl, c, hx, ?_, Fi.rf, h7⟩
        rw [B_X10_scanDigits_7]
        simp only [gRd G, if_true, h6, h7]
        rw [if_neg (nI_ge c0 (by omega))]
        simp only [e42, bI_eq, if_true, e45, if_neg c]
    · refine ⟨m, I, x, Nat.le_refl _, hm, hl, ?_, hx, ?_, Fi.rf, h7⟩
      · rw [bC_out (by omega)]
        omega
      · rw [B_X10_scanDigits_7]
        simp only [gRd G, if_true, h6, h7]
        rw [if_pos (nI_le (by omega) (by omega))]
theorem s_digits (d : Nat) {S : mS} {I : mI} {L : mJ} (G : Gd S) (z : kR S 32 5 = 8) {tp q u : Nat} (htp : tp ≤ 2000) (h6 : I 32 6 = nI tp) (h7 : I 32 7 = nI q) (hq : q < tp) (h4 : I 32 4 = nI u) (hu : u < 401) (hc : isD (bC (I 8) tp q)) : ∃ k n e1 J, evM zcod (d + 2) 49 [.ref 32] (S, I, L) = some (none, (S, J, uL L 36 u n)) ∧ Fi (sgF u) I J ∧ J 32 7 = nI e1 ∧ J 32 4 = nI (u + 1) ∧ J 34 u = k ∧ J 35 u = nI q ∧ TKd (bC (I 8) tp) tp q k n e1 := by
  obtain ⟨m, J1, x, a1, a2, a3, a4, a5, a6, a7, a8⟩ := s_digLoop d (L := L) G z htp (tp - q) 0 I (nI 0) (by omega) (by omega) h6 h7 (fun j hj => by omega) (fun _ => rfl)
  have m1 : 1 ≤ m := by
    by_cases c : m = 0
    · subst c
      exact absurd hc a4
    · omega
  have j4 : J1 32 4 = nI u := (a7 _ _ (by unfold scF; omega)).trans h4
  have w0 : evM zcod (d + 2) 49 [.ref 32] (S, I, L) = evk zcod none (d + 1) zc_X10_scanDigits 62 [(0, .ref 32), (1, .int (nI q)), (2, .int x)] [] (S, J1, L) := by
    rw [E_X10_scanDigits, B_X10_scanDigits_0]
    simp only [gRd G, if_true, h7]
    exact a6
  have fin : ∀ k, evk zcod none (d + 1) zc_X10_scanDigits 78 [(1, .int (nI q)), (2, .int x)] [.int k, .ref 32] (S, J1, L) = some (none, (S, uI (uI (uI J1 34 u k) 35 u (nI q)) 32 4 (nI (u + 1)), uL L 36 u x.toInt64)) := by
    intro k
    rw [B_X10_scanDigits_78]
    simp only [gRd G, if_true, s_tokAdd d (L := L) G j4 hu, bV_eq]
  have F : ∀ k, Fi (sgF u) I (uI (uI (uI J1 34 u k) 35 u (nI q)) 32 4 (nI (u + 1))) := fun k => (a7.up fun _ _ z => Or.inl ⟨z.1, Or.inr z.2⟩).tr (Fi.u (Fi.u (Fi.u Fi.rf (Or.inr ⟨Or.inl rfl, rfl⟩)) (Or.inr ⟨Or.inr rfl, rfl⟩)) (Or.inl ⟨rfl, Or.inl rfl⟩))
  have r7 : ∀ k, uI (uI (uI J1 34 u k) 35 u (nI q)) 32 4 (nI (u + 1)) 32 7 = nI (q + m) := fun k => (uI_ix (by omega)).trans ((uI_off (by omega)).trans ((uI_off (by omega)).trans a8))
  have r34 : ∀ k, uI (uI (uI J1 34 u k) 35 u (nI q)) 32 4 (nI (u + 1)) 34 u = k := fun k => (uI_off (by omega)).trans ((uI_off (by omega)).trans (uI_same _ _ _ _))
  have r35 : ∀ k, uI (uI (uI J1 34 u k) 35 u (nI q)) 32 4 (nI (u + 1)) 35 u = nI q := fun k => (uI_off (by omega)).trans (uI_same _ _ _ _)
  have ms : nI (q + m) - nI q = nI m := by rw [pk_sub (by omega), show q + m - q = m by omega]
  by_cases c : m ≤ 4
  · refine ⟨nI 3, x.toInt64, q + m, _, ?_, F _, r7 _, uI_same _ _ _ _, r34 _, r35 _, m, m1, a2, a3, a4, rfl, Or.inr ⟨c, rfl, by rw [a5 c]⟩⟩
    rw [w0, B_X10_scanDigits_62]
    simp only [gRd G, if_true, a8, ms]
    rw [if_pos (nI_le c (by omega)), B_X10_scanDigits_77]
    exact fin (nI 3)
  · refine ⟨nI 1, x.toInt64, q + m, _, ?_, F (nI 1), r7 _, uI_same _ _ _ _, r34 _, r35 _, m, m1, a2, a3, a4, rfl, Or.inl ⟨by omega, rfl⟩⟩
    rw [w0, B_X10_scanDigits_62]
    simp only [gRd G, if_true, a8, ms]
    rw [if_neg (nI_ge (by omega) (by omega))]
    exact fin (nI 1)
theorem k31 (S : mS) : kK S 3 = 30 ∧ kK S 5 = 31 := ⟨rfl, rfl⟩
theorem zb5 : (zby 5).length = 9 ∧ ∀ i, i < 9 → (zby 5).getD i 0 = nI ([59, 61, 43, 45, 42, 47, 60, 40, 41].getD i 0) := by decide +kernel
theorem i8_sg : ∀ n, n < 256 → ∀ s, s < 62 → 40 ≤ s → (nI s = (nI n).toInt8.toInt32 ↔ s = n) := by decide +kernel
theorem sg_bd : ∀ i, i < 9 → 40 ≤ [59, 61, 43, 45, 42, 47, 60, 40, 41].getD i 0 ∧ [59, 61, 43, 45, 42, 47, 60, 40, 41].getD i 0 < 62 ∧ isGn ([59, 61, 43, 45, 42, 47, 60, 40, 41].getD i 0) := by decide +kernel
theorem sg_all : ∀ n, n < 256 → isGn n → ∃ i, i < 9 ∧ [59, 61, 43, 45, 42, 47, 60, 40, 41].getD i 0 = n := by decide +kernel
theorem s_indexOf (d : Nat) {S : mS} {I : mI} {L : mJ} {n : Nat} (hn : n < 256) : ∃ x, evM zcod (d + 5) 269 [.ref 3, .int (nI n)] (S, I, L) = some (some (.int x), (S, I, L)) ∧ (x < nI 0 ↔ ¬ isGn n) := by
  have key : ∀ j i, i + j = 9 → (∀ k, k < i → ¬ [59, 61, 43, 45, 42, 47, 60, 40, 41].getD k 0 = n) → ∃ x, evk zcod none (d + 1) zc_J1_indexOfChar_4cfef 7 [(0, .ref 5), (3, .int (nI 9)), (4, .int (nI n).toInt8.toInt32), (5, .int (nI i))] [] (S, I, L) = some (some (.int x), (S, I, L)) ∧ (x < nI 0 ↔ ¬ isGn n) := by
    intro j
    induction j with
    | zero =>
      intro i hi h
      refine ⟨-1, ?_, ?_⟩
      · rw [B_J1_indexOfChar_4cfef_7, if_pos (nI_le (by omega) (by omega)), B_J1_indexOfChar_4cfef_31]
      · constructor
        · intro _ g
          obtain ⟨k, hk, e⟩ := sg_all n hn g
          exact h k (by omega) e
        · intro _
          decide +kernel
    | succ j ih =>
      intro i hi h
      obtain ⟨s, e1, e2⟩ : ∃ s, (zby 5).getD i 0 = nI s ∧ s = [59, 61, 43, 45, 42, 47, 60, 40, 41].getD i 0 := ⟨_, zb5.2 i (by omega), rfl⟩
      have bd := sg_bd i (by omega)
      rw [← e2] at bd
      have xi : zin (nI i) (zby 5).length = True := by rw [zb5.1]; exact ixT (by omega) (by omega)
      have xii : zix (nI i) = i := ixI (by omega)
      by_cases c : s = n
      · refine ⟨nI i, ?_, ?_⟩
        · rw [B_J1_indexOfChar_4cfef_7, if_neg (nI_ge (by omega) (by omega))]
          simp only [k31 S, true_and, xi, xii, if_true, e1]
          rw [if_neg (fun q => q ((i8_sg n hn s bd.2.1 bd.1).mpr c))]
        · constructor
          · intro w
            exact absurd w (n_pos (n := i) (by omega))
          · intro w
            rw [← c] at w
            exact absurd bd.2.2 w
      · obtain ⟨x, e, r⟩ := ih (i + 1) (by omega) (fun k hk => by
          by_cases v : k = i
          · rw [v, ← e2]; exact c
          · exact h k (by omega))
        refine ⟨x, ?_, r⟩
        rw [B_J1_indexOfChar_4cfef_7, if_neg (nI_ge (by omega) (by omega))]
        simp only [k31 S, true_and, xi, xii, if_true, e1]
        rw [if_pos (fun q => c ((i8_sg n hn s bd.2.1 bd.1).mp q)), B_J1_indexOfChar_4cfef_25, nI_add]
        exact e
  obtain ⟨x, e, r⟩ := key 9 0 rfl fun k hk => by omega
  refine ⟨x, ?_, r⟩
  have e273 : evM zcod (d + 2) 273 [.ref 5, .int (nI n), .int (nI 0), .int (nI 9)] (S, I, L) = some (some (.int x), (S, I, L)) := by
    rw [E_J1_indexOfChar_4cfef, B_J1_indexOfChar_4cfef_0]
    exact e
  have e272 : evM zcod (d + 2) 272 [.int (nI n)] (S, I, L) = some (some (.int (nI 1)), (S, I, L)) := by
    rw [E_J1_canEncode_9a6ad]
    simp only [B_J1_canEncode_9a6ad_0, B_J1_canEncode_9a6ad_15, B_J1_canEncode_9a6ad_16, b1, if_true]
    rw [if_neg (n_pos (n := n) (by omega)), if_neg (nI_nlt (by omega) (by omega))]
  have e274 : evM zcod (d + 2) 274 [.int (nI 0), .int (nI 0)] (S, I, L) = some (some (.int (nI 0)), (S, I, L)) := by
    rw [E_J9_max_7cf53]
    simp only [B_J9_max_7cf53_0, B_J9_max_7cf53_9, B_J9_max_7cf53_10]
    rw [if_neg (by decide +kernel)]
  have e275 : evM zcod (d + 2) 275 [.int (nI 9), .int (nI 9)] (S, I, L) = some (some (.int (nI 9)), (S, I, L)) := by
    rw [s_min (d + 1)]
    rw [if_neg (by decide +kernel)]
  have e271 : evM zcod (d + 3) 271 [.ref 5, .int (nI n), .int (nI 0), .int (nI 9)] (S, I, L) = some (some (.int x), (S, I, L)) := by
    rw [E_J1_indexOf_4cfef, B_J1_indexOf_4cfef_0]
    simp only [e272, bI_eq, if_true, z10, not_false_iff]
    rw [B_J1_indexOf_4cfef_9]
    simp only [e274, bI_eq, if_true, k31 S, zb5.1, e275]
    rw [if_pos (by decide +kernel), B_J1_indexOf_4cfef_29]
    simp only [e273, bI_eq, if_true]
  have e265 : evM zcod (d + 3) 265 [.ref 3] (S, I, L) = some (some (.int (nI 1)), (S, I, L)) := by
    rw [E_J0_isLatin1_aae02]
    simp only [B_J0_isLatin1_aae02_0, B_J0_isLatin1_aae02_17, B_J0_isLatin1_aae02_18, k31 S, if_true, b1]
    rw [if_neg z10, if_neg (fun q => q trivial)]
  have e262 : evM zcod (d + 3) 262 [.ref 3] (S, I, L) = some (some (.int (nI 9)), (S, I, L)) := by
    have e263 : evM zcod (d + 2) 263 [.ref 3] (S, I, L) = some (some (.int (nI 0)), (S, I, L)) := by
      rw [E_J0_coder_7d493]
      simp only [B_J0_coder_7d493_0, B_J0_coder_7d493_13, B_J0_coder_7d493_14, k31 S, if_true]
      rw [if_neg z10, if_pos (by decide +kernel)]
    rw [E_J0_length_8abf5, B_J0_length_8abf5_0]
    simp only [k31 S, if_true, e263, bI_eq, zb5.1]
    rw [show nI 9 >>> (nI 0 &&& nI 31) = nI 9 from by decide +kernel]
  rw [E_J0_indexOf_0f7a4, B_J0_indexOf_0f7a4_0]
  have e270 : evM zcod (d + 4) 270 [.ref 3, .int (nI n), .int (nI 0)] (S, I, L) = some (some (.int x), (S, I, L)) := by
    rw [E_J0_indexOf_7cf53, B_J0_indexOf_7cf53_0]
    simp only [k31 S, if_true, e265, bI_eq, z10, if_false, e262]
    rw [e271]
    simp only [bI_eq, if_true]
    rw [B_J0_indexOf_7cf53_36]
  simp only [k31 S, if_true, e270, bI_eq]
/-! one token, the scan -/
theorem s_skip (d : Nat) {S : mS} {L : mJ} (G : Gd S) (z : kR S 32 5 = 8) {tp : Nat} (htp : tp ≤ 2000) : ∀ (n e : Nat) (I : mI), tp - e ≤ n → e ≤ tp → I 32 6 = nI tp → I 32 7 = nI e → ∃ q J, e ≤ q ∧ q ≤ tp ∧ (∀ j, e ≤ j → j < q → isB (bC (I 8) tp j)) ∧ (q < tp → ¬ isB (bC (I 8) tp q)) ∧ evk zcod none (d + 1) zc_X10_scanOne 0 [(0, .ref 32)] [] (S, I, L) = evk zcod none (d + 1) zc_X10_scanOne 38 [(0, .ref 32)] [] (S, J, L) ∧ Fi scF I J ∧ J 32 7 = nI q := by
  intro n
  induction n with
  | zero =>
    intro e I hn he h6 h7
    refine ⟨e, I, Nat.le_refl _, he, fun j h1 h2 => by omega, fun h => by omega, ?_, Fi.rf, h7⟩
    rw [B_X10_scanOne_0]
    simp only [gRd G, if_true, h6, h7]
    rw [if_pos (nI_le (by omega) (by omega))]
  | succ n ih =>
    intro e I hn he h6 h7
    by_cases c0 : e < tp
    · have e42 := s_byteAt d (L := L) (I := I) G z h6 htp (i := e) (by omega)
      have e43 := s_isB d (S := S) (I := I) (L := L) (bC_lt (I 8) tp e)
      by_cases c : isB (bC (I 8) tp e)
      · let J := uI I 32 7 (nI (e + 1))
        have f : Fi scF I J := Fi.u Fi.rf ⟨rfl, rfl⟩
        have r8 : J 8 = I 8 := f.row 8 fun j => by unfold scF; omega
        obtain ⟨q, J2, a1, a2, a3, a4, a5, a6, a7⟩ := ih (e + 1) J (by omega) (by omega) ((uI_ix (by omega)).trans h6) (uI_same _ _ _ _)
        rw [r8] at a3 a4
        refine ⟨q, J2, by omega, a2, fun j h1 h2 => ?_, a4, ?_, f.tr a6, a7⟩
        · by_cases w : j = e
          · rw [w]; exact c
          · exact a3 j (by omega) h2
        · refine Eq.trans ?_ a5
          rw [B_X10_scanOne_0]
          simp only [gRd G, if_true, h6, h7]
          rw [if_neg (nI_ge c0 (by omega))]
          simp only [e42, bI_eq, if_true, e43, if_pos c, z10, if_false, h7, nI_add]
          simp only [gRd G, if_true]
          rfl
      · refine ⟨e, I, Nat.le_refl _, he, fun j h1 h2 => by omega, fun _ => c, ?_, Fi.rf, h7⟩
        rw [B_X10_scanOne_0]
        simp only [gRd G, if_true, h6, h7]
        rw [if_neg (nI_ge c0 (by omega))]
        simp only [e42, bI_eq, if_true, e43, if_neg c]
    · refine ⟨e, I, Nat.le_refl _, he, fun j h1 h2 => by omega, fun h => by omega, ?_, Fi.rf, h7⟩
      rw [B_X10_scanOne_0]
      simp only [gRd G, if_true, h6, h7]
      rw [if_pos (nI_le (by omega) (by omega))]
theorem s_scanOne (d : Nat) {S : mS} {I : mI} {L : mJ} (G : Gd S) (z : kR S 32 5 = 8) (hW : WCL L) {tp e u : Nat} (htp : tp ≤ 2000) (h6 : I 32 6 = nI tp) (h7 : I 32 7 = nI e) (he : e ≤ tp) (h4 : I 32 4 = nI u) (hu : u < 401) : ∃ k p n e1 J, evM zcod (d + 7) 40 [.ref 32] (S, I, L) = some (none, (S, J, uL L 36 u n)) ∧ Fi (sgF u) I J ∧ J 32 7 = nI e1 ∧ e1 ≤ tp ∧ J 32 4 = nI (u + 1) ∧ J 34 u = k ∧ J 35 u = p ∧ TK1 (bC (I 8) tp) tp e k p n e1 := by
  obtain ⟨q, J1, a1, a2, a3, a4, a5, a6, a7⟩ := s_skip (d + 5) (L := L) G z htp (tp - e) e I (Nat.le_refl _) he h6 h7
  have r8 : J1 8 = I 8 := a6.row 8 fun j => by unfold scF; omega
  have j6 : J1 32 6 = nI tp := (a6 _ _ (by unfold scF; omega)).trans h6
  have j4 : J1 32 4 = nI u := (a6 _ _ (by unfold scF; omega)).trans h4
  have F1 : Fi (sgF u) I J1 := a6.up fun _ _ z => Or.inl ⟨z.1, Or.inr z.2⟩
  have e42 := s_byteAt (d + 5) (L := L) (I := J1) G z j6 htp (i := q) (by omega)
  have w0 : evM zcod (d + 7) 40 [.ref 32] (S, I, L) = evk zcod none (d + 6) zc_X10_scanOne 38 [(0, .ref 32)] [] (S, J1, L) := by
    rw [E_X10_scanOne]
    exact a5
  by_cases c : q < tp
  · have nb := a4 c
    have lt := bC_lt (I 8) tp q
    have e44 := s_isL (d + 5) (S := S) (I := J1) (L := L) lt
    have e45 := s_isD (d + 5) (S := S) (I := J1) (L := L) lt
    rw [r8] at e42
    have w71 : evM zcod (d + 7) 40 [.ref 32] (S, I, L) = evk zcod none (d + 6) zc_X10_scanOne 71 [(0, .ref 32), (1, .int (nI (bC (I 8) tp q)))] [] (S, J1, L) := by
      rw [w0, B_X10_scanOne_38]
      simp only [gRd G, if_true, a7, e42, bI_eq, j6]
      rw [if_pos (nI_lt c (by omega))]
    by_cases cl : isL (bC (I 8) tp q)
    · obtain ⟨k, n, e1, J, e, f, b1, b2, b3, b4, b5⟩ := s_letters (d + 4) (L := L) G z hW htp j6 a7 c j4 hu (by rw [r8]; exact cl)
      rw [r8] at b5
      refine ⟨k, nI q, n, e1, J, ?_, F1.tr f, b1, ?_, b2, b3, b4, q, a1, a2, a3, rfl, Or.inr ⟨c, nb, Or.inl b5⟩⟩
      · rw [w71, B_X10_scanOne_71]
        simp only [e44, bI_eq, if_true, if_pos cl, z10, if_false, gRd G, e, bV_eq]
        rw [B_X10_scanOne_133]
      · obtain ⟨m, _, x, _, _, y, _⟩ := b5
        omega
    · have w85 : evM zcod (d + 7) 40 [.ref 32] (S, I, L) = evk zcod none (d + 6) zc_X10_scanOne 85 [(0, .ref 32), (1, .int (nI (bC (I 8) tp q)))] [] (S, J1, L) := by
        rw [w71, B_X10_scanOne_71]
        simp only [e44, bI_eq, if_true, if_neg cl]
      by_cases cd : isD (bC (I 8) tp q)
      · obtain ⟨k, n, e1, J, e, f, b1, b2, b3, b4, b5⟩ := s_digits (d + 4) (L := L) G z htp j6 a7 c j4 hu (by rw [r8]; exact cd)
        rw [r8] at b5
        refine ⟨k, nI q, n, e1, J, ?_, F1.tr f, b1, ?_, b2, b3, b4, q, a1, a2, a3, rfl, Or.inr ⟨c, nb, Or.inr (Or.inl b5)⟩⟩
        · rw [w85, B_X10_scanOne_85]
          simp only [e45, bI_eq, if_true, if_pos cd, z10, if_false, gRd G, e, bV_eq]
          rw [B_X10_scanOne_133]
        · obtain ⟨m, _, x, _, _, y, _⟩ := b5
          omega
      · obtain ⟨x, ei, xi⟩ := s_indexOf (d + 1) (S := S) (I := J1) (L := L) lt
        have ch : ((nI (bC (I 8) tp q)).toUInt32 % 65536).toInt32 = nI (bC (I 8) tp q) := by
          rw [pk_char, pk_tn (by omega), Nat.mod_eq_of_lt (by omega)]
        have j7' : ∀ k, uI (uI (uI J1 34 u k) 35 u (nI q)) 32 4 (nI (u + 1)) 32 7 = nI q := fun k => (uI_ix (by omega)).trans ((uI_off (by omega)).trans ((uI_off (by omega)).trans a7))
        have fin : ∀ k, evk zcod none (d + 6) zc_X10_scanOne 115 [(0, .ref 32)] [.int k, .ref 32] (S, J1, L) = some (none, (S, uI (uI (uI (uI J1 34 u k) 35 u (nI q)) 32 4 (nI (u + 1))) 32 7 (nI (q + 1)), uL L 36 u 0)) := by
          intro k
          rw [B_X10_scanOne_115]
          simp only [gRd G, if_true, a7, s_tokAdd (d + 5) (L := L) G j4 hu, bV_eq, j7', nI_add]
          rw [B_X10_scanOne_133]
        have FJ : ∀ k, Fi (sgF u) I (uI (uI (uI (uI J1 34 u k) 35 u (nI q)) 32 4 (nI (u + 1))) 32 7 (nI (q + 1))) := fun k => F1.tr (Fi.u (Fi.u (Fi.u (Fi.u Fi.rf (Or.inr ⟨Or.inl rfl, rfl⟩)) (Or.inr ⟨Or.inr rfl, rfl⟩)) (Or.inl ⟨rfl, Or.inl rfl⟩)) (Or.inl ⟨rfl, Or.inr rfl⟩))
        have r4 : ∀ k, uI (uI (uI (uI J1 34 u k) 35 u (nI q)) 32 4 (nI (u + 1))) 32 7 (nI (q + 1)) 32 4 = nI (u + 1) := fun k => (uI_ix (by omega)).trans (uI_same _ _ _ _)
        have r34 : ∀ k, uI (uI (uI (uI J1 34 u k) 35 u (nI q)) 32 4 (nI (u + 1))) 32 7 (nI (q + 1)) 34 u = k := fun k => (uI_off (by omega)).trans ((uI_off (by omega)).trans ((uI_off (by omega)).trans (uI_same _ _ _ _)))
        have r35 : ∀ k, uI (uI (uI (uI J1 34 u k) 35 u (nI q)) 32 4 (nI (u + 1))) 32 7 (nI (q + 1)) 35 u = nI q := fun k => (uI_off (by omega)).trans ((uI_off (by omega)).trans (uI_same _ _ _ _))
        have w99 : evM zcod (d + 7) 40 [.ref 32] (S, I, L) = if x < nI 0 then evk zcod none (d + 6) zc_X10_scanOne 114 [(0, .ref 32)] [.ref 32] (S, J1, L) else evk zcod none (d + 6) zc_X10_scanOne 115 [(0, .ref 32)] [.int (nI (bC (I 8) tp q)), .ref 32] (S, J1, L) := by
          rw [w85, B_X10_scanOne_85]
          simp only [e45, bI_eq, if_true, if_neg cd]
          rw [B_X10_scanOne_99]
          simp only [k31 S, if_true, ch, ei, bI_eq]
        by_cases g : isGn (bC (I 8) tp q)
        · refine ⟨nI (bC (I 8) tp q), nI q, 0, q + 1, _, ?_, FJ _, uI_same _ _ _ _, by omega, r4 _, r34 _, r35 _, q, a1, a2, a3, rfl, Or.inr ⟨c, nb, Or.inr (Or.inr ⟨cl, cd, rfl, (if_pos g).symm⟩)⟩⟩
          rw [w99, if_neg (fun w => xi.mp w g)]
          exact fin _
        · refine ⟨nI 1, nI q, 0, q + 1, _, ?_, FJ _, uI_same _ _ _ _, by omega, r4 _, r34 _, r35 _, q, a1, a2, a3, rfl, Or.inr ⟨c, nb, Or.inr (Or.inr ⟨cl, cd, rfl, (if_neg g).symm⟩)⟩⟩
          rw [w99, if_pos (xi.mpr g), B_X10_scanOne_114]
          exact fin _
  · have qt : q = tp := by omega
    refine ⟨nI 0, nI q, 0, q, uI (uI (uI J1 34 u (nI 0)) 35 u (nI q)) 32 4 (nI (u + 1)), ?_, F1.tr (Fi.u (Fi.u (Fi.u Fi.rf (Or.inr ⟨Or.inl rfl, rfl⟩)) (Or.inr ⟨Or.inr rfl, rfl⟩)) (Or.inl ⟨rfl, Or.inl rfl⟩)), (uI_ix (by omega)).trans ((uI_off (by omega)).trans ((uI_off (by omega)).trans a7)), by omega, uI_same _ _ _ _, (uI_off (by omega)).trans ((uI_off (by omega)).trans (uI_same _ _ _ _)), (uI_off (by omega)).trans (uI_same _ _ _ _), q, a1, a2, a3, rfl, Or.inl ⟨qt, rfl, rfl⟩⟩
    rw [w0, B_X10_scanOne_38]
    simp only [gRd G, if_true, a7, e42, bI_eq, j6]
    rw [if_neg (nI_nlt (by omega) (by omega))]
    simp only [s_tokAdd (d + 5) (L := L) G j4 hu, bV_eq, if_true]
    rw [B_X10_scanOne_133]
