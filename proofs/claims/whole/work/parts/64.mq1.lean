/-! what the reference answers, first group -/
theorem NW.fi {I J : mI} {r : mW} (h : NW I r) (f : Fi mj I J) : NW J r := fun j q => (f 419 j (by unfold mj; omega)).trans (h j q)
theorem copA_mj {I J : mI} (f : Fi (fun a j => a = 420 ∨ a = 384 ∧ j = 54) I J) : Fi mj I J := f.up fun a j q => by unfold mj; omega
theorem m_areBoth (d : Nat) {S : mS} {I : mI} {L : mJ} {P : mP} {v : Nat} (G : Gd S) (hv : PV P) (h : MC S I P v) (i k : Int32) : evM zcod (d + 3) 225 [.ref 384, .int i, .int k] (S, I, L) = some (some (.int (if (inN i (nLo P) && inN k (nSi P)) = true then nI 1 else nI 0)), (S, I, L)) := by
  rw [E_X12_areBoth]
  simp only [B_X12_areBoth_0, B_X12_areBoth_20, B_X12_areBoth_21, gM G, if_true, m_isLoad _ G hv h, m_isSilk _ G hv h, bI_eq, b0, b1]
  cases inN i (nLo P) <;> cases inN k (nSi P) <;> simp [n10]
theorem RV.foot {P : mP} {r : mW} (hr : RV P r) {k : Nat} (hk : k < nSi P) (hv : PV P) : r (35 + k) = -2 ∧ ¬ nI 0 ≤ r (35 + k) ∨ ¬ r (35 + k) = -2 ∧ nI 0 ≤ r (35 + k) := by
  have v1 := hv.1
  rcases (hr.2.1 k hk).2 with e | ⟨a, ha, e, _⟩
  · exact Or.inl ⟨e, by rw [e]; decide +kernel⟩
  · refine Or.inr ⟨?_, ?_⟩
    · rw [e]; exact nI_m2 (by omega)
    · rw [e]; exact nI_le (by omega) (by omega)
theorem rdy_nI {P : mP} {r : mW} {a k : Nat} (hv : PV P) (ha : a < nLo P) (hk : k < nSi P) : rdy P r (nI a) (nI k) = (decide (r (7 + a) = nI 0) && decide (r (35 + k) = -2)) := by
  have v1 := hv.1
  have v2 := hv.2.1
  unfold rdy ftL ftS
  rw [inN_nI (by omega), inN_nI (by omega), decide_eq_true ha, decide_eq_true hk, t_nI (by omega), t_nI (by omega)]
  rfl
theorem m_areAtFoot (d : Nat) {S : mS} {I : mI} {L : mJ} {P : mP} {r : mW} (G : Gd S) (hv : PV P) (hr : RV P r) (n : NW I r) {a k : Nat} (ha : a < nLo P) (hk : k < nSi P) : evM zcod (d + 1) 224 [.ref 384, .int (nI a), .int (nI k)] (S, I, L) = some (some (.int (if rdy P r (nI a) (nI k) = true then nI 1 else nI 0)), (S, I, L)) := by
  have v1 := hv.1
  have v2 := hv.2.1
  have z1 : zin (nI (7 + a)) 58 = True := ixT (by omega) (by omega)
  have z2 : zix (nI (7 + a)) = 7 + a := ixI (by omega)
  have z3 : zin (nI (35 + k)) 58 = True := ixT (by omega) (by omega)
  have z4 : zix (nI (35 + k)) = 35 + k := ixI (by omega)
  rw [E_X12_areAtFoot, rdy_nI hv ha hk]
  simp only [B_X12_areAtFoot_0, B_X12_areAtFoot_28, B_X12_areAtFoot_29, gM G, if_true, true_and, nI_add, z1, z2, z3, z4, n (7 + a) (by omega), n (35 + k) (by omega)]
  rcases hr.foot hk hv with ⟨e1, e2⟩ | ⟨e1, e2⟩
  · by_cases c : r (7 + a) = nI 0
    · simp [c, e1, e2]
      intro q
      rw [← e1] at q
      exact absurd q e2
    · simp [c]
  · by_cases c : r (7 + a) = nI 0
    · simp [c, e1, e2]
    · simp [c]
theorem q_load (d : Nat) {S : mS} {I : mI} {L : mJ} {P : mP} {v : Nat} {r : mW} (G : Gd S) (hv : PV P) (h : MC S I P v) (n : NW I r) (i w : Int32) : evM zcod (d + 3) 218 [.ref 384, .int i, .int w] (S, I, L) = some (some (.int (aLoad P r i w)), (S, I, L)) := by
  have v1 := hv.1
  have hv2 := h.1
  rw [E_X12_load]
  simp only [B_X12_load_0, gM G, if_true, m_isLoad _ G hv h, bI_eq]
  unfold aLoad
  cases c : inN i (nLo P)
  · simp
  · obtain ⟨k, hk, rfl⟩ := inN_of c
    have z1 : zin (nI k) 58 = True := ixT (by omega) (by omega)
    have z2 : zix (nI k) = k := ixI (by omega)
    have z3 : zin (nI (7 * v + k)) 14 = True := ixT (by omega) (by omega)
    have z4 : zix (nI (7 * v + k)) = 7 * v + k := ixI (by omega)
    have g : ∀ j, 3 ≤ j → j < 7 → evk zcod none (d + 2) zc_X12_load 89 [(0, .ref 384), (1, .int (nI k)), (2, .int (nI j))] [] (S, I, L) = some (some (.int (r (7 * (j - 2) + k))), (S, I, L)) := by
      intro j h1 h2
      rw [B_X12_load_89, pk_sub (by omega), pk_mul, nI_add]
      simp only [gM G, if_true, true_and]
      rw [if_pos (ixP (by omega) (by omega)), ixI (by omega), n _ (by omega)]
    simp only [if_true, n10, not_false_eq_true, B_X12_load_10, t_nI (show k < 2147483648 by omega), Int.toNat_natCast]
    by_cases w0 : w = nI 0
    · rw [if_pos w0, if_pos w0, B_X12_load_52]
      simp only [gM G, if_true, true_and, z1, z2, n k (by omega)]
    rw [if_neg w0, if_neg w0]
    by_cases w1 : w = nI 1
    · rw [if_pos w1, if_pos w1, B_X12_load_59]
      simp only [gM G, if_true, true_and, h.2.1, pk_mul, nI_add, z3, z4, (h.2.2.2.2.2.2.2.2.1 k hk).1]
    rw [if_neg w1, if_neg w1]
    by_cases w2 : w = nI 2
    · rw [if_pos w2, if_pos w2, B_X12_load_74]
      simp only [gM G, if_true, true_and, h.2.1, pk_mul, nI_add, z3, z4, (h.2.2.2.2.2.2.2.2.1 k hk).2]
    rw [if_neg w2, if_neg w2]
    by_cases w3 : w = nI 3
    · rw [if_pos w3, if_pos w3, w3, g 3 (by omega) (by omega)]
    rw [if_neg w3, if_neg w3]
    by_cases w4 : w = nI 4
    · rw [if_pos w4, if_pos w4, w4, g 4 (by omega) (by omega)]
    rw [if_neg w4, if_neg w4]
    by_cases w5 : w = nI 5
    · rw [if_pos w5, if_pos w5, w5, g 5 (by omega) (by omega)]
    rw [if_neg w5, if_neg w5]
    by_cases w6 : w = nI 6
    · rw [if_pos w6, if_pos w6, w6, g 6 (by omega) (by omega)]
    rw [if_neg w6, if_neg w6, B_X12_load_103]
theorem q_silk (d : Nat) {S : mS} {I : mI} {L : mJ} {P : mP} {v : Nat} {r : mW} (G : Gd S) (hv : PV P) (h : MC S I P v) (n : NW I r) (i w : Int32) : evM zcod (d + 3) 219 [.ref 384, .int i, .int w] (S, I, L) = some (some (.int (aSilk P r i w)), (S, I, L)) := by
  have v2 := hv.2.1
  have hv2 := h.1
  rw [E_X12_silk]
  simp only [B_X12_silk_0, gM G, if_true, m_isSilk _ G hv h, bI_eq]
  unfold aSilk
  cases c : inN i (nSi P)
  · simp
  · obtain ⟨k, hk, rfl⟩ := inN_of c
    have z1 : zin (nI (35 + k)) 58 = True := ixT (by omega) (by omega)
    have z2 : zix (nI (35 + k)) = 35 + k := ixI (by omega)
    have z3 : zin (nI (45 + k)) 58 = True := ixT (by omega) (by omega)
    have z4 : zix (nI (45 + k)) = 45 + k := ixI (by omega)
    have z5 : zin (nI (5 * v + k)) 10 = True := ixT (by omega) (by omega)
    have z6 : zix (nI (5 * v + k)) = 5 * v + k := ixI (by omega)
    simp only [if_true, n10, not_false_eq_true, B_X12_silk_10, B_X12_silk_36, B_X12_silk_50, B_X12_silk_60, B_X12_silk_70, gM G, true_and, h.2.1, pk_mul, nI_add, z1, z2, z3, z4, z5, z6, n (35 + k) (by omega), n (45 + k) (by omega), h.2.2.2.2.2.2.2.2.2.1 k hk, t_nI (show k < 2147483648 by omega), Int.toNat_natCast]
    split
    · rfl
    · split
      · rfl
      · split <;> rfl
theorem q_pull (d : Nat) {S : mS} {I : mI} {L : mJ} {P : mP} {v : Nat} {r : mW} (G : Gd S) (hv : PV P) (h : MC S I P v) (n : NW I r) (i : Int32) : evM zcod (d + 3) 220 [.ref 384, .int i] (S, I, L) = some (some (.int (aPull P r i)), (S, I, L)) := by
  have v2 := hv.2.1
  rw [E_X12_pull]
  simp only [B_X12_pull_0, B_X12_pull_20, B_X12_pull_22, gM G, if_true, m_isSilk _ G hv h, bI_eq]
  unfold aPull
  cases c : inN i (nSi P)
  · simp
  · obtain ⟨k, hk, rfl⟩ := inN_of c
    have z1 : zin (nI (40 + k)) 58 = True := ixT (by omega) (by omega)
    have z2 : zix (nI (40 + k)) = 40 + k := ixI (by omega)
    simp only [if_true, n10, if_false, gM G, true_and, nI_add, z1, z2, n (40 + k) (by omega), B_X12_pull_0, B_X12_pull_20, B_X12_pull_22, t_nI (show k < 2147483648 by omega), Int.toNat_natCast]
theorem q_hook (d : Nat) {S : mS} {I : mI} {L : mJ} {P : mP} {v : Nat} {r : mW} (G : Gd S) (hv : PV P) (h : MC S I P v) (n : NW I r) (i w : Int32) : evM zcod (d + 3) 221 [.ref 384, .int i, .int w] (S, I, L) = some (some (.int (aHook P r i w)), (S, I, L)) := by
  have v1 := hv.1
  have v3 := hv.2.2.1
  have hv2 := h.1
  rw [E_X12_hook]
  simp only [B_X12_hook_0, gM G, if_true, m_isHook _ G hv h, bI_eq]
  unfold aHook
  cases c : inN i (nHo P)
  · simp
  · obtain ⟨k, hk, rfl⟩ := inN_of c
    have z1 : zin (nI (50 + k)) 58 = True := ixT (by omega) (by omega)
    have z2 : zix (nI (50 + k)) = 50 + k := ixI (by omega)
    have z5 : zin (nI (5 * v + k)) 10 = True := ixT (by omega) (by omega)
    have z6 : zix (nI (5 * v + k)) = 5 * v + k := ixI (by omega)
    have key : ∀ m j, j + m = nLo P → evk zcod none (d + 2) zc_X12_hook 83 [(0, .ref 384), (1, .int (nI k)), (3, .int (nI (bs (fun a => decide (r (28 + a) = nI k)) j))), (4, .int (nI j))] [] (S, I, L) = some (some (.int (nI (cauB P r k))), (S, I, L)) := by
      intro m
      induction m with
      | zero =>
        intro j hj
        rw [B_X12_hook_83]
        simp only [gM G, if_true, true_and, h.2.1, zv2 h.1, h.2.2.1]
        rw [if_pos (nI_le (by omega) (by omega)), B_X12_hook_124]
        unfold cauB
        rw [show nLo P = j by omega]
      | succ m ih =>
        intro j hj
        rw [B_X12_hook_83]
        simp only [gM G, if_true, true_and, h.2.1, zv2 h.1, h.2.2.1, nI_add]
        rw [if_neg (nI_ge (by omega) (by omega)), if_pos (ixP (by omega) (by omega)), ixI (by omega), n (28 + j) (by omega), B_X12_hook_118, B_X12_hook_118, nI_add]
        by_cases q : r (28 + j) = nI k
        · rw [if_neg (fun z => z q), bs_or (P := fun a => decide (r (28 + a) = nI k)) (by omega) (decide_eq_true q)]
          exact ih (j + 1) (by omega)
        · rw [if_pos q, bs_no (P := fun a => decide (r (28 + a) = nI k)) (fun z => q (of_decide_eq_true z))]
          exact ih (j + 1) (by omega)
    have k0 := key (nLo P) 0 (by omega)
    rw [show bs (fun a => decide (r (28 + a) = nI k)) 0 = 0 from rfl] at k0
    simp only [if_true, n10, not_false_eq_true, B_X12_hook_10, B_X12_hook_40, B_X12_hook_50, B_X12_hook_64, B_X12_hook_78, B_X12_hook_126, gM G, true_and, h.2.1, pk_mul, nI_add, z1, z2, z5, z6, n (50 + k) (by omega), h.2.2.2.2.2.2.2.2.2.2.1 k hk, k0, t_nI (show k < 2147483648 by omega), Int.toNat_natCast]
    split
    · rfl
    · split
      · rfl
      · split
        · rfl
        · split <;> rfl
theorem q_near (d : Nat) {S : mS} {I : mI} {L : mJ} {P : mP} {v : Nat} {r : mW} (G : Gd S) (hv : PV P) (h : MC S I P v) (n : NW I r) (x : Int32) : ∃ J, evM zcod (d + 3) 238 [.ref 384, .int x] (S, I, L) = some (some (.int (aNear P r x)), (S, J, L)) ∧ Fi mj I J := by
  rw [E_X12_near]
  simp only [B_X12_near_0, B_X12_near_12, gM G, if_true, m_in, bI_eq]
  unfold aNear
  cases c : okI x (nI 0) (nI 19)
  · simp only [Bool.false_eq_true, if_false, not_true_eq_false]
    exact ⟨I, rfl, Fi.rf⟩
  · obtain ⟨J1, e1, r1, s1, f1⟩ := m_copies (d + 1) (L := L) G h n
    obtain ⟨J2, e2, z2, f2⟩ := m_handsFree (d + 1) (I := J1) (L := L) G
    have h2 := (h.fi (copA_mj f1)).fi (f2.up (B := mj) fun a j q => by unfold mj; omega)
    have r2 : RW J2 r := fun j q => (f2 420 j (by omega)).trans (r1 j q)
    simp only [if_true, n10, not_false_eq_true, e1, bV_eq, gM G, e2, m_hookAt _ G hv h2 r2 x (all_hands hv z2), bI_eq]
    exact ⟨J2, rfl, (copA_mj f1).tr (f2.up fun a j q => by unfold mj; omega)⟩
theorem q_flight (d : Nat) {S : mS} {I : mI} {L : mJ} {P : mP} {v : Nat} {r : mW} (G : Gd S) (hv : PV P) (hr : RV P r) (h : MC S I P v) (n : NW I r) (i k w what : Int32) : ∃ J, evM zcod (d + 7) 235 [.ref 384, .int i, .int k, .int w, .int what] (S, I, L) = some (some (.int (aFlight P r i k w what)), (S, J, L)) ∧ Fi mj I J := by
  have v1 := hv.1
  have v2 := hv.2.1
  rw [E_X12_flight]
  simp only [B_X12_flight_0, B_X12_flight_29, gM G, if_true, m_areBoth _ G hv h, m_in, bI_eq]
  unfold aFlight
  cases c1 : inN i (nLo P) && inN k (nSi P)
  · simp only [Bool.false_and, if_false, Bool.false_eq_true, if_true]
    exact ⟨I, rfl, Fi.rf⟩
  · cases c2 : okI w (nI 0) (nI 24)
    · simp only [Bool.true_and, Bool.false_and, if_false, Bool.false_eq_true, if_true, n10]
      exact ⟨I, rfl, Fi.rf⟩
    · cases c3 : okI what (nI 0) (nI 3)
      · simp only [Bool.true_and, Bool.false_and, if_false, Bool.false_eq_true, if_true, n10, not_true_eq_false]
        exact ⟨I, rfl, Fi.rf⟩
      · simp only [Bool.true_and, if_true, n10, if_false, not_false_eq_true, B_X12_flight_31, gM G]
        obtain ⟨a, ha, rfl⟩ := inN_of (Bool.and_eq_true_iff.mp c1).1
        obtain ⟨b, hb, rfl⟩ := inN_of (Bool.and_eq_true_iff.mp c1).2
        simp only [m_areAtFoot _ G hv hr n ha hb, bI_eq, if_true]
        cases c4 : rdy P r (nI a) (nI b)
        · simp only [if_false, Bool.false_eq_true, not_true_eq_false]
          exact ⟨I, rfl, Fi.rf⟩
        · simp only [if_true, n10, not_false_eq_true]
          obtain ⟨J1, e1, r1, s1, f1⟩ := m_copies (d + 5) (L := L) G h n
          have h1 := h.fi (copA_mj f1)
          obtain ⟨J2, e2, f2, j1, j2, j3, j4, j5⟩ := m_fliesFrom d (L := L) G hv h1 r1 ha hb w (r (40 + b))
          have z1 : zin (nI (40 + b)) 58 = True := ixT (by omega) (by omega)
          have z2 : zix (nI (40 + b)) = 40 + b := ixI (by omega)
          simp only [B_X12_flight_43, B_X12_flight_75, B_X12_flight_88, B_X12_flight_101, B_X12_flight_105, gM G, if_true, e1, bV_eq, true_and, nI_add, z1, z2, r1 (40 + b) (by omega), e2, j1, j2, j3, j4, t_nI (show a < 2147483648 by omega), t_nI (show b < 2147483648 by omega), Int.toNat_natCast]
          refine ⟨J2, ?_, (copA_mj f1).tr (mf_mj f2)⟩
          by_cases w0 : what = nI 0
          · rw [if_neg (fun z => z w0), if_pos w0]
          · rw [if_pos w0, if_neg w0]
            by_cases w1 : what = nI 1
            · rw [if_neg (fun z => z w1), if_pos w1]
            · rw [if_pos w1, if_neg w1]
              by_cases w2 : what = nI 2
              · rw [if_neg (fun z => z w2), if_pos w2]
              · rw [if_pos w2, if_neg w2]
