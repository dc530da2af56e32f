/-! laws told; what is told of flights -/
def aTells (P : mP) (r : mW) (i k w : Int32) : Int32 := if (inN i (nLo P) && okI w (nI 0) (nI 3) && (inN k (nSi P) || !(decide (w = nI 0) || decide (w = nI 2)))) = true then
    (if w = nI 0 then lawL P (r 55) (upS P r) (stS P r) (sta P (30 + k.toInt.toNat)) (sta P (10 + i.toInt.toNat)) (nI 0) (r i.toInt.toNat)
     else if w = nI 1 then lawW P (r 55) (upS P r) (stS P r) (nI 0) (r i.toInt.toNat)
     else if w = nI 2 then lawT P (r 55) (upS P r) (stS P r) (sta P (30 + k.toInt.toNat)) (sta P (10 + i.toInt.toNat))
     else lawP P (r 55) (upS P r) (stS P r) (sta P (20 + i.toInt.toNat)) (sta P (10 + i.toInt.toNat)))
  else -100
theorem w4 {w : Int32} (h : okI w (nI 0) (nI 3) = true) : w = nI 0 ∨ w = nI 1 ∨ w = nI 2 ∨ w = nI 3 := by
  obtain ⟨k, hk, rfl⟩ := okI_n h (by omega)
  match k, hk with
  | 0, _ => exact Or.inl rfl
  | 1, _ => exact Or.inr (Or.inl rfl)
  | 2, _ => exact Or.inr (Or.inr (Or.inl rfl))
  | 3, _ => exact Or.inr (Or.inr (Or.inr rfl))
  | n + 4, q => omega
theorem e01 : ¬ nI 0 = nI 1 := by decide +kernel
theorem e10 : ¬ nI 1 = nI 0 := by decide +kernel
theorem e12 : ¬ nI 1 = nI 2 := by decide +kernel
theorem e20 : ¬ nI 2 = nI 0 := by decide +kernel
theorem e21 : ¬ nI 2 = nI 1 := by decide +kernel
theorem e30 : ¬ nI 3 = nI 0 := by decide +kernel
theorem e31 : ¬ nI 3 = nI 1 := by decide +kernel
theorem e32 : ¬ nI 3 = nI 2 := by decide +kernel
theorem e02 : ¬ nI 0 = nI 2 := by decide +kernel
theorem c_tells (d : Nat) {S : mS} {I : mI} {L : mJ} {P : mP} {r : mW} (G : Gd S) (hv : PV P) (h : CC S I P r) (i k w : Int32) : ∃ J, evM zcod (d + 4) 121 [.ref 7, .int i, .int k, .int w] (S, I, L) = some (some (.int (aTells P r i k w)), (S, J, L)) ∧ Fi jk I J := by
  have v1 := hv.1
  have v2 := hv.2.1
  have f0 := skB_f I (r 55) (upS P r) (stS P r)
  have B := skB_b I (r 55) (upS P r) (stS P r)
  have f0j : Fi jk I (skB I (r 55) (upS P r) (stS P r)) := f0.up fun a j q => by unfold jk; omega
  have h1 : CC S (skB I (r 55) (upS P r) (stS P r)) P r := h.fi f0j
  -- behind the checks
  have go : ∀ a, a < nLo P → evk zcod none (d + 3) zc_X11_tells 61 [(0, .ref 7), (1, .int (nI a)), (2, .int k), (3, .int w)] [] (S, I, L) = evk zcod none (d + 3) zc_X11_tells 117 [(0, .ref 7), (1, .int (nI a)), (2, .int k), (3, .int w), (5, .int (r a)), (6, .int (sta P (10 + a)))] [] (S, skB I (r 55) (upS P r) (stS P r), L) := by
    intro a ha
    rw [B_X11_tells_61]
    simp only [g7 G, gSt G is39, if_true, s_atN _ (h.1.tl G is39 hv) ha (show 0 < 7 by omega), s_atN _ (h.1.tl G is39 hv) ha (show 1 < 7 by omega), bI_eq, h.1.lo ha, s_up _ G is39 hv h.1, s_stored _ G is39 hv h.1, h.1.ti.1, s_begin _ G, bV_eq]
    rfl
  rw [E_X11_tells]
  unfold aTells
  have first : evk zcod none (d + 3) zc_X11_tells 0 [(0, .ref 7), (1, .int i), (2, .int k), (3, .int w)] [] (S, I, L) = evk zcod none (d + 3) zc_X11_tells 14 [(0, .ref 7), (1, .int i), (2, .int k), (3, .int w)] [.int (if (decide (w = nI 0) || decide (w = nI 2)) = true then nI 1 else nI 0)] (S, I, L) := by
    rw [B_X11_tells_0, B_X11_tells_9, B_X11_tells_13]
    by_cases q0 : w = nI 0
    · rw [if_pos q0, decide_eq_true q0]; rfl
    · rw [if_neg q0, decide_eq_false q0]
      by_cases q2 : w = nI 2
      · rw [if_neg (fun z => z q2), decide_eq_true q2]; rfl
      · rw [if_pos q2, decide_eq_false q2]; rfl
  rw [first, B_X11_tells_14]
  simp only [w_in, bI_eq, if_true, B_X11_tells_58]
  cases c1 : okI w (nI 0) (nI 3)
  · simp only [Bool.false_eq_true, if_false, if_true, Bool.and_false, Bool.false_and]
    exact ⟨I, rfl, Fi.rf⟩
  · simp only [if_true, n10, if_false, g7 G, gSt G is39, s_has _ (h.1.tl G is39 hv), bI_eq]
    cases c2 : inN i (nLo P)
    · simp only [Bool.false_eq_true, if_false, if_true, Bool.false_and]
      exact ⟨I, B_X11_tells_58 .., Fi.rf⟩
    · obtain ⟨a, ha, rfl⟩ := inN_of c2
      have ea : (nI a).toInt.toNat = a := by rw [t_nI (by omega)]; rfl
      have Tl := h1.1.tl G is39 hv
      simp only [if_true, n10, if_false, s_has _ (h.1.ts G is39 hv), bI_eq, go a ha, Bool.and_self, Bool.true_and, ea]
      have needs : ∀ b, b < nSi P → (w = nI 0 ∨ w = nI 2) → ∃ J, evk zcod none (d + 3) zc_X11_tells 117 [(0, .ref 7), (1, .int (nI a)), (2, .int (nI b)), (3, .int w), (5, .int (r a)), (6, .int (sta P (10 + a)))] [] (S, skB I (r 55) (upS P r) (stS P r), L) = some (some (.int (if w = nI 0 then lawL P (r 55) (upS P r) (stS P r) (sta P (30 + b)) (sta P (10 + a)) (nI 0) (r a) else lawT P (r 55) (upS P r) (stS P r) (sta P (30 + b)) (sta P (10 + a)))), (S, J, L)) ∧ Fi jk I J := by
        intro b hb hw
        have Ts := h1.1.ts G is39 hv
        rw [B_X11_tells_117]
        rcases hw with rfl | rfl
        · obtain ⟨J, e, f⟩ := s_lift (d) (L := L) G h1.2.1 B (sta P (30 + b)) (sta P (10 + a)) (nI 0) (r a)
          refine ⟨J, ?_, f0j.tr (sk_jk f)⟩
          rw [if_neg (fun q => q rfl)]
          simp only [g7 G, gSt G is39, if_true, s_atN _ Ts hb (show 0 < 4 by omega), bI_eq, h1.1.si hb, e]
        · obtain ⟨J, e, f⟩ := s_ties (d) (L := L) G h1.2.1 B (sta P (30 + b)) (sta P (10 + a))
          refine ⟨J, ?_, f0j.tr (sk_jk f)⟩
          rw [if_pos e20, B_X11_tells_146, if_pos e21, B_X11_tells_162, if_neg (fun q => q rfl), if_neg e20]
          simp only [g7 G, gSt G is39, if_true, s_atN _ Ts hb (show 0 < 4 by omega), bI_eq, h1.1.si hb, e]
      rcases w4 c1 with rfl | rfl | rfl | rfl
      · simp only [decide_true, Bool.true_or, if_true, n10, if_false, Bool.not_true, Bool.or_false]
        cases c3 : inN k (nSi P)
        · simp only [Bool.false_eq_true, if_false, not_true_eq_false]
          exact ⟨I, B_X11_tells_58 .., Fi.rf⟩
        · obtain ⟨b, hb, rfl⟩ := inN_of c3
          have eb : (nI b).toInt.toNat = b := by rw [t_nI (by omega)]; rfl
          obtain ⟨J, e, f⟩ := needs b hb (Or.inl rfl)
          simp only [if_true, n10, not_false_eq_true, eb, e]
          exact ⟨J, rfl, f⟩
      · simp only [decide_eq_false e10, decide_eq_false e12, Bool.or_self, Bool.false_eq_true, if_false, if_true, Bool.not_false, Bool.or_true]
        obtain ⟨J, e, f⟩ := s_wind (d) (L := L) G h1.2.1 B (nI 0) (r a)
        refine ⟨J, ?_, f0j.tr (sk_jk f)⟩
        rw [B_X11_tells_117, if_pos e10, B_X11_tells_146, if_neg (fun q => q rfl), if_neg e10]
        simp only [g7 G, gSt G is39, if_true, e, bI_eq]
      · simp only [decide_eq_false e20, decide_true, Bool.or_true, if_true, n10, if_false, Bool.not_true, Bool.or_false]
        cases c3 : inN k (nSi P)
        · simp only [Bool.false_eq_true, if_false, not_true_eq_false]
          exact ⟨I, B_X11_tells_58 .., Fi.rf⟩
        · obtain ⟨b, hb, rfl⟩ := inN_of c3
          have eb : (nI b).toInt.toNat = b := by rw [t_nI (by omega)]; rfl
          obtain ⟨J, e, f⟩ := needs b hb (Or.inr rfl)
          simp only [if_true, n10, not_false_eq_true, eb, e, e20, e21, if_false]
          exact ⟨J, rfl, f⟩
      · simp only [decide_eq_false e30, decide_eq_false e32, Bool.or_self, Bool.false_eq_true, if_false, if_true, Bool.not_false, Bool.or_true]
        obtain ⟨J, e, f⟩ := s_pays (d) (L := L) G h1.2.1 B (sta P (20 + a)) (sta P (10 + a))
        refine ⟨J, ?_, f0j.tr (sk_jk f)⟩
        rw [B_X11_tells_117, if_pos e30, B_X11_tells_146, if_pos e31, B_X11_tells_162, if_pos e32, B_X11_tells_189, if_neg e30, if_neg e31, if_neg e32]
        simp only [g7 G, gSt G is39, if_true, s_atN _ Tl ha (show 2 < 7 by omega), bI_eq, h1.1.lo ha, e]
theorem q_tells (d : Nat) {S : mS} {I : mI} {L : mJ} {P : mP} {v : Nat} {r : mW} (G : Gd S) (hv : PV P) (h : MC S I P v) (n : NW I r) (i k w : Int32) : ∃ J, evM zcod (d + 4) 222 [.ref 384, .int i, .int k, .int w] (S, I, L) = some (some (.int (aTells P r i k w)), (S, J, L)) ∧ Fi mj I J := by
  have v1 := hv.1
  have v2 := hv.2.1
  have hv2 := h.1
  rw [E_X12_tells]
  unfold aTells
  simp only [B_X12_tells_0, B_X12_tells_31, gM G, if_true, m_isLoad _ G hv h, m_in, bI_eq]
  cases c2 : inN i (nLo P)
  · simp only [Bool.false_eq_true, if_false, if_true, Bool.false_and]
    exact ⟨I, rfl, Fi.rf⟩
  · cases c1 : okI w (nI 0) (nI 3)
    · simp only [Bool.false_eq_true, if_false, if_true, Bool.and_false, Bool.false_and, n10]
      exact ⟨I, rfl, Fi.rf⟩
    · obtain ⟨a, ha, rfl⟩ := inN_of c2
      have ea : (nI a).toInt.toNat = a := by rw [t_nI (by omega)]; rfl
      obtain ⟨J1, e1, r1, s1, f1⟩ := m_copies (d + 2) (L := L) G h n
      have h1 := h.fi (copA_mj f1)
      have z1 : zin (nI (7 * v + a)) 14 = True := ixT (by omega) (by omega)
      have z2 : zix (nI (7 * v + a)) = 7 * v + a := ixI (by omega)
      have z3 : zin (nI a) 58 = True := ixT (by omega) (by omega)
      have z4 : zix (nI a) = a := ixI (by omega)
      have n2 : (nI 2 = nI 0) = False := eq_false e20
      have r0 : zrem (nI 0) (nI 2) = nI 0 := by decide +kernel
      have r1' : zrem (nI 1) (nI 2) = nI 1 := by decide +kernel
      have r2 : zrem (nI 2) (nI 2) = nI 0 := by decide +kernel
      have r3 : zrem (nI 3) (nI 2) = nI 1 := by decide +kernel
      simp only [if_true, n10, if_false, n2, Bool.and_self, Bool.true_and, ea, m_isSilk _ G hv h, bI_eq]
      rcases w4 c1 with rfl | rfl | rfl | rfl
      · simp only [r0, not_true_eq_false, if_false, decide_true, Bool.true_or, Bool.not_true, Bool.or_false]
        cases c3 : inN k (nSi P)
        · simp only [Bool.false_eq_true, if_false, not_true_eq_false]
          exact ⟨I, B_X12_tells_31 .., Fi.rf⟩
        · obtain ⟨b, hb, rfl⟩ := inN_of c3
          have eb : (nI b).toInt.toNat = b := by rw [t_nI (by omega)]; rfl
          have z5 : zin (nI (5 * v + b)) 10 = True := ixT (by omega) (by omega)
          have z6 : zix (nI (5 * v + b)) = 5 * v + b := ixI (by omega)
          obtain ⟨K, e2, f2⟩ := m_liftBy d (L := L) G hv h1 r1 (r 55) (upS P r) (sta P (30 + b)) (sta P (10 + a)) (nI 0) (r a)
          simp only [if_true, n10, not_false_eq_true, eb, B_X12_tells_34, B_X12_tells_80, gM G, e1, bV_eq, true_and, h1.2.1, pk_mul, nI_add, z1, z2, z3, z4, z5, z6, zt58, zx, (h1.2.2.2.2.2.2.2.2.1 a ha).1, m_upNow _ G hv h1 r1, bI_eq, r1 55 (by omega), r1 a (by omega), h1.2.2.2.2.2.2.2.2.2.1 b hb, e2]
          exact ⟨K, rfl, (copA_mj f1).tr (mk_mj f2)⟩
      · simp only [r1', n10, not_false_eq_true, if_true, decide_eq_false e10, decide_eq_false e12, Bool.or_self, Bool.not_false, Bool.or_true, if_false]
        obtain ⟨K, e2, f2⟩ := m_windBy d (L := L) G hv h1 r1 (r 55) (upS P r) (nI 0) (r a)
        simp only [B_X12_tells_34, gM G, if_true, e1, bV_eq, true_and, h1.2.1, pk_mul, nI_add, z1, z2, n10, if_false, B_X12_tells_118, zt58, zx, m_upNow _ G hv h1 r1, bI_eq, r1 55 (by omega), z3, z4, r1 a (by omega), e2, decide_false, Bool.or_false, Bool.not_false, Bool.or_true]
        exact ⟨K, rfl, (copA_mj f1).tr (mk_mj f2)⟩
      · simp only [r2, not_true_eq_false, if_false, decide_eq_false e20, decide_true, Bool.or_true, Bool.not_true, Bool.or_false]
        cases c3 : inN k (nSi P)
        · simp only [Bool.false_eq_true, if_false, not_true_eq_false]
          exact ⟨I, B_X12_tells_31 .., Fi.rf⟩
        · obtain ⟨b, hb, rfl⟩ := inN_of c3
          have eb : (nI b).toInt.toNat = b := by rw [t_nI (by omega)]; rfl
          have z5 : zin (nI (5 * v + b)) 10 = True := ixT (by omega) (by omega)
          have z6 : zix (nI (5 * v + b)) = 5 * v + b := ixI (by omega)
          obtain ⟨K, e2, f2⟩ := m_tiesBy d (L := L) G hv h1 r1 (r 55) (upS P r) (sta P (30 + b)) (sta P (10 + a))
          have q21 : (nI 2 = nI 1) = False := eq_false e21
          simp only [if_true, n10, n2, q21, if_false, not_false_eq_true, eb, B_X12_tells_34, B_X12_tells_141, gM G, e1, bV_eq, true_and, h1.2.1, pk_mul, nI_add, z1, z2, z5, z6, zt58, zx, (h1.2.2.2.2.2.2.2.2.1 a ha).1, m_upNow _ G hv h1 r1, bI_eq, r1 55 (by omega), h1.2.2.2.2.2.2.2.2.2.1 b hb, e2]
          exact ⟨K, rfl, (copA_mj f1).tr (mk_mj f2)⟩
      · have q30 : (nI 3 = nI 0) = False := eq_false e30
        have q31 : (nI 3 = nI 1) = False := eq_false e31
        have q32 : (nI 3 = nI 2) = False := eq_false e32
        simp only [r3, n10, not_false_eq_true, if_true, decide_eq_false e30, decide_eq_false e32, Bool.or_self, Bool.not_false, Bool.or_true]
        obtain ⟨K, e2, f2⟩ := m_paysBy d (L := L) G hv h1 r1 (r 55) (upS P r) ha
        simp only [B_X12_tells_34, gM G, if_true, e1, bV_eq, true_and, h1.2.1, pk_mul, nI_add, z1, z2, q30, q31, q32, if_false, B_X12_tells_172, zt58, zx, m_upNow _ G hv h1 r1, bI_eq, r1 55 (by omega), e2]
        exact ⟨K, rfl, (copA_mj f1).tr (mk_mj f2)⟩
