/-! what fills the barn most: the reference's lists -/
def upN (P : mP) (r : mW) : Nat → Nat
  | 0 => 0
  | a + 1 => upN P r a + (if ftA P r a = true then 1 else 0)
theorem upN_s {P : mP} {r : mW} {a : Nat} : upN P r (a + 1) = upN P r a + (if ftA P r a = true then 1 else 0) := rfl
theorem upN_le {P : mP} {r : mW} : ∀ a, upN P r a ≤ a
  | 0 => Nat.le_refl 0
  | a + 1 => by
    rw [upN_s]
    have := upN_le (P := P) (r := r) a
    split <;> omega
theorem upN_cn {P : mP} {r : mW} : ∀ k, k ≤ 7 → upN P r (7 - k) + cnF P r k = upN P r 7
  | 0, _ => rfl
  | k + 1, h => by
    have ih := upN_cn (P := P) (r := r) k (by omega)
    rw [show 7 - k = (6 - k) + 1 by omega, upN_s] at ih
    rw [cnF_s, show 7 - (k + 1) = 6 - k by omega]
    omega
theorem cn_up {P : mP} {r : mW} : cnF P r 7 = upN P r 7 := by
  have := upN_cn (P := P) (r := r) 7 (by omega)
  rw [show upN P r (7 - 7) = 0 from rfl] at this
  omega
theorem gn_is {P : mP} {r : mW} {a b : Nat} (h : rdy P r (nI a) (nI b) = true) : (gnS P r a b = NEV ↔ ¬ (flyS P r a b (r (40 + b)) (nI 0)).2.1 = nI 1) := by
  unfold gnS
  rw [if_pos h]
  by_cases c : (flyS P r a b (r (40 + b)) (nI 0)).2.1 = nI 1
  · rw [if_pos c]
    refine ⟨fun q => ?_, fun q => absurd c q⟩
    exfalso
    have q1 := earnS_b P r a b (r (40 + b)) (nI 0)
    have q2 := lawT_b P (r 55) (nI (soN P r (nI 1))) (nI (soN P r (nI 2))) (sta P (30 + b)) (sta P (10 + a))
    have q3 := sub_t (x := earnS P r a b (r (40 + b)) (nI 0)) (y := lawT P (r 55) (nI (soN P r (nI 1))) (nI (soN P r (nI 2))) (sta P (30 + b)) (sta P (10 + a))) (by omega) (by omega)
    rw [q, NEV_t] at q3
    omega
  · rw [if_neg c]
    exact ⟨fun _ => c, fun _ => rfl⟩
/-- one load's list of digits -/
def DG (I : mI) (P : mP) (r : mW) (a i b : Nat) : Prop := ∀ x, x < b → (x < 5 → I 428 (6 * i + x) = (if gnS P r a x = NEV then nI 0 else nI 1) ∧ (¬ gnS P r a x = NEV → I 427 (6 * i + x) = gnS P r a x)) ∧ (x = 5 → I 428 (6 * i + x) = nI 1 ∧ I 427 (6 * i + x) = nI 0)
/-- the lists of the loads before a -/
def FL (I : mI) (P : mP) (r : mW) (a : Nat) : Prop := I 384 68 = nI (upN P r a) ∧ ∀ x, x < a → ftA P r x = true → I 426 (upN P r x) = nI x ∧ DG I P r x (upN P r x) 6
theorem upN_lt {P : mP} {r : mW} {x : Nat} (hx : ftA P r x = true) : ∀ a, x < a → upN P r x < upN P r a
  | 0, h => absurd h (Nat.not_lt_zero x)
  | a + 1, h => by
    rw [upN_s]
    by_cases w : x = a
    · subst w
      rw [if_pos hx]
      omega
    · have := upN_lt hx a (by omega)
      omega
theorem m_digits (d : Nat) {S : mS} {L : mJ} {P : mP} {v : Nat} {r : mW} (G : Gd S) (hv : PV P) (hok : RV P r) {a i : Nat} (ha : a < nLo P) (e7 : r (7 + a) = nI 0) (hi : i < 7) : ∀ n b, n + b = 6 → ∀ I, MC S I P v → RW I r → I 384 68 = nI i → DG I P r a i b → ∃ J, evk zcod none (d + 6) zc_X12_fillsBrings 41 [(0, .ref 384), (1, .int (nI a)), (2, .int (nI b))] [] (S, I, L) = evk zcod none (d + 6) zc_X12_fillsBrings 219 [(0, .ref 384), (1, .int (nI a))] [] (S, J, L) ∧ MC S J P v ∧ RW J r ∧ J 384 68 = nI i ∧ DG J P r a i 6 ∧ Fi (fun x j => mfA x j ∨ (x = 427 ∨ x = 428) ∧ 6 * i ≤ j ∧ j < 6 * i + 6) I J := by
  have v1 := hv.1
  have v2 := hv.2.1
  intro n
  induction n with
  | zero =>
    intro b hb I h hr h68 hd
    refine ⟨I, ?_, h, hr, h68, by rw [show (6 : Nat) = b by omega]; exact hd, Fi.rf⟩
    rw [B_X12_fillsBrings_41, if_pos (nI_le (by omega) (by omega))]
  | succ n ih =>
    intro b hb I h hr h68 hd
    have hv2 := h.1
    have y1 : zin (nI (6 * i + b)) 42 = True := ixT (by omega) (by omega)
    have y2 : zix (nI (6 * i + b)) = 6 * i + b := ixI (by omega)
    have nxt : ∀ J, MC S J P v → RW J r → J 384 68 = nI i → Fi (fun x j => mfA x j ∨ (x = 427 ∨ x = 428) ∧ 6 * i ≤ j ∧ j < 6 * i + 6) I J → DG J P r a i (b + 1) → ∃ K, evk zcod none (d + 6) zc_X12_fillsBrings 213 [(0, .ref 384), (1, .int (nI a)), (2, .int (nI b))] [] (S, J, L) = evk zcod none (d + 6) zc_X12_fillsBrings 219 [(0, .ref 384), (1, .int (nI a))] [] (S, K, L) ∧ MC S K P v ∧ RW K r ∧ K 384 68 = nI i ∧ DG K P r a i 6 ∧ Fi (fun x j => mfA x j ∨ (x = 427 ∨ x = 428) ∧ 6 * i ≤ j ∧ j < 6 * i + 6) I K := by
      intro J hJ rJ j68 fJ dJ
      obtain ⟨K, eK, k1, k2, k3, k4, k5⟩ := ih (b + 1) (by omega) J hJ rJ j68 dJ
      refine ⟨K, ?_, k1, k2, k3, k4, fJ.tr k5⟩
      rw [B_X12_fillsBrings_213, nI_add]
      exact eK
    let c0 : Int32 := if b = 5 then nI 1 else nI 0
    let J0 := uI (uI I 428 (6 * i + b) c0) 427 (6 * i + b) (nI 0)
    have f0 : Fi (fun x j => mfA x j ∨ (x = 427 ∨ x = 428) ∧ 6 * i ≤ j ∧ j < 6 * i + 6) I J0 := Fi.u (Fi.u Fi.rf (Or.inr ⟨Or.inr rfl, by omega, by omega⟩)) (Or.inr ⟨Or.inl rfl, by omega, by omega⟩)
    have m0 : Fi mj I J0 := Fi.u (Fi.u Fi.rf (by unfold mj; omega)) (by unfold mj; omega)
    have h0 := h.fi m0
    have r0 : RW J0 r := fun j q => (uI_off (by omega)).trans ((uI_off (by omega)).trans (hr j q))
    have j68 : J0 384 68 = nI i := (uI_off (by omega)).trans ((uI_off (by omega)).trans h68)
    have d0 : DG J0 P r a i b := fun x hx => by
      have e1 : J0 428 (6 * i + x) = I 428 (6 * i + x) := (uI_off (by omega)).trans (uI_ix (by omega))
      have e2 : J0 427 (6 * i + x) = I 427 (6 * i + x) := (uI_ix (by omega)).trans (uI_off (by omega))
      rw [e1, e2]
      exact hd x hx
    have ef : J0 428 (6 * i + b) = c0 := (uI_off (by omega)).trans (uI_same _ _ _ _)
    have eg : J0 427 (6 * i + b) = nI 0 := uI_same _ _ _ _
    have st : evk zcod none (d + 6) zc_X12_fillsBrings 41 [(0, .ref 384), (1, .int (nI a)), (2, .int (nI b))] [] (S, I, L) = evk zcod none (d + 6) zc_X12_fillsBrings 70 [(0, .ref 384), (1, .int (nI a)), (2, .int (nI b))] [.int c0, .int (nI (6 * i + b)), .ref 428] (S, I, L) := by
      rw [B_X12_fillsBrings_41, if_neg (nI_ge (by omega) (by omega))]
      simp only [gM G, if_true, h68, pk_mul, nI_add]
      by_cases w : b = 5
      · rw [if_neg (fun q => q (by rw [w]))]
        show _ = evk zcod none (d + 6) zc_X12_fillsBrings 70 [(0, .ref 384), (1, .int (nI a)), (2, .int (nI b))] [.int (if b = 5 then nI 1 else nI 0), .int (nI (6 * i + b)), .ref 428] (S, I, L)
        rw [if_pos w]
      · rw [if_pos (fun q => w ((nI_eq (by omega) (by omega)).mp q)), B_X12_fillsBrings_69]
        show _ = evk zcod none (d + 6) zc_X12_fillsBrings 70 [(0, .ref 384), (1, .int (nI a)), (2, .int (nI b))] [.int (if b = 5 then nI 1 else nI 0), .int (nI (6 * i + b)), .ref 428] (S, I, L)
        rw [if_neg w]
    have c1 : c0 &&& nI 1 = c0 := by
      show (if b = 5 then nI 1 else nI 0) &&& nI 1 = (if b = 5 then nI 1 else nI 0)
      split <;> decide +kernel
    have eJ : uI (uI I 428 (6 * i + b) c0) 427 (6 * i + b) (nI 0) = J0 := rfl
    have e68 : uI I 428 (6 * i + b) c0 384 68 = nI i := (uI_off (by omega)).trans h68
    rw [st, B_X12_fillsBrings_70]
    simp only [gM G, if_true, true_and, y1, y2, c1, e68, pk_mul, nI_add, eJ, m_isSilk _ G hv h0, bI_eq]
    cases cs : inN (nI b) (nSi P)
    · simp only [Bool.false_eq_true, if_false, if_true]
      refine nxt J0 h0 r0 j68 f0 (fun x hx => ?_)
      by_cases w : x = b
      · subst w
        have gn : gnS P r a x = NEV := by
          have : rdy P r (nI a) (nI x) = false := by
            cases c : rdy P r (nI a) (nI x)
            · rfl
            · obtain ⟨a', b', ha', hb', ea, eb⟩ := rdy_in c
              rw [eb, inN_nI (by omega), decide_eq_true hb'] at cs
              cases cs
          unfold gnS
          rw [this]
          rfl
        refine ⟨fun q => ⟨?_, fun z => absurd gn z⟩, fun q => ⟨?_, eg⟩⟩
        · rw [ef, if_pos gn]
          show (if x = 5 then nI 1 else nI 0) = nI 0
          rw [if_neg (by omega)]
        · rw [ef]
          show (if x = 5 then nI 1 else nI 0) = nI 1
          rw [if_pos q]
      · exact d0 x (by omega)
    · obtain ⟨b', hb', eb⟩ := inN_of cs
      have : b = b' := (nI_eq (by omega) (by omega)).mp eb
      subst this
      have z1 : zin (nI (35 + b)) 58 = True := ixT (by omega) (by omega)
      have z2 : zix (nI (35 + b)) = 35 + b := ixI (by omega)
      have z3 : zin (nI (40 + b)) 58 = True := ixT (by omega) (by omega)
      have z4 : zix (nI (40 + b)) = 40 + b := ixI (by omega)
      simp only [if_true, n10, if_false, z1, z2, r0 (35 + b) (by omega)]
      have b5 : ¬ b = 5 := by omega
      have c00 : c0 = nI 0 := if_neg b5
      rcases hok.foot hb' hv with ⟨q1, q2⟩ | ⟨q1, q2⟩
      · have rd : rdy P r (nI a) (nI b) = true := by
          rw [rdy_nI hv ha hb', decide_eq_true e7, decide_eq_true q1]
          rfl
        rw [if_pos (by rw [i_lt]; rw [i_le] at q2; omega), B_X12_fillsBrings_109]
        obtain ⟨J1, e1, f1, j1, j2, j3, j4, j5⟩ := m_fliesFrom d (L := L) G hv h0 r0 ha hb' (nI 0) (r (40 + b))
        have h1 := h0.fi (mf_mj f1)
        have r1 := r0.mf f1
        have j68' : J1 384 68 = nI i := (f1 384 68 (by unfold mfA; omega)).trans j68
        have o1 : ∀ x j, 425 ≤ x → J1 x j = J0 x j := fun x j q => f1 x j (by unfold mfA; omega)
        simp only [gM G, if_true, true_and, z3, z4, r0 (40 + b) (by omega), e1, bV_eq, j68', pk_mul, nI_add, j2]
        have fin : ∀ c : Int32, c &&& nI 1 = c → ∃ J2, evk zcod none (d + 6) zc_X12_fillsBrings 151 [(0, .ref 384), (1, .int (nI a)), (2, .int (nI b))] [.int c, .int (nI (6 * i + b)), .ref 428] (S, J1, L) = evk zcod none (d + 6) zc_X12_fillsBrings 213 [(0, .ref 384), (1, .int (nI a)), (2, .int (nI b))] [] (S, J2, L) ∧ MC S J2 P v ∧ RW J2 r ∧ J2 384 68 = nI i ∧ J2 428 (6 * i + b) = c ∧ J2 427 (6 * i + b) = earnS P r a b (r (40 + b)) (nI 0) - lawT P (r 55) (upS P r) (stS P r) (sta P (30 + b)) (sta P (10 + a)) ∧ (∀ x, x < b → J2 428 (6 * i + x) = J1 428 (6 * i + x) ∧ J2 427 (6 * i + x) = J1 427 (6 * i + x)) ∧ Fi (fun x j => mfA x j ∨ (x = 427 ∨ x = 428) ∧ 6 * i ≤ j ∧ j < 6 * i + 6) J1 J2 := by
          intro c hc
          let K1 := uI J1 428 (6 * i + b) c
          have fK : Fi mj J1 K1 := Fi.u Fi.rf (by unfold mj; omega)
          have hK := h1.fi fK
          have rK : RW K1 r := fun j q => (uI_off (by omega)).trans (r1 j q)
          obtain ⟨K2, e2, f2⟩ := m_tiesBy (d + 3) (L := L) G hv hK rK (r 55) (upS P r) (sta P (30 + b)) (sta P (10 + a))
          have hK2 := hK.fi (mk_mj f2)
          have rK2 := rK.mk f2
          have o2 : ∀ x j, 425 ≤ x → K2 x j = K1 x j := fun x j q => f2 x j (by unfold mkA; omega)
          let v9 := earnS P r a b (r (40 + b)) (nI 0) - lawT P (r 55) (upS P r) (stS P r) (sta P (30 + b)) (sta P (10 + a))
          have fU : Fi mj K2 (uI K2 427 (6 * i + b) v9) := Fi.u Fi.rf (by unfold mj; omega)
          refine ⟨uI K2 427 (6 * i + b) v9, ?_, hK2.fi fU, fun j q => (uI_off (by omega)).trans (rK2 j q), (uI_off (by omega)).trans ((f2 384 68 (by unfold mkA; omega)).trans ((uI_off (by omega)).trans j68')), (uI_off (by omega)).trans ((o2 _ _ (by omega)).trans (uI_same _ _ _ _)), uI_same _ _ _ _, fun x hx => ⟨(uI_off (by omega)).trans ((o2 _ _ (by omega)).trans (uI_ix (by omega))), (uI_ix (by omega)).trans ((o2 _ _ (by omega)).trans (uI_off (by omega)))⟩, Fi.u ((Fi.u (A := fun x j => mfA x j ∨ (x = 427 ∨ x = 428) ∧ 6 * i ≤ j ∧ j < 6 * i + 6) Fi.rf (Or.inr ⟨Or.inr rfl, by omega, by omega⟩)).tr (f2.up fun x j q => Or.inl (by unfold mkA at q; unfold mfA; omega))) (Or.inr ⟨Or.inl rfl, by omega, by omega⟩)⟩
          have w1 : zin (nI (5 * v + b)) 10 = True := ixT (by omega) (by omega)
          have w2 : zix (nI (5 * v + b)) = 5 * v + b := ixI (by omega)
          have w3 : zin (nI (7 * v + a)) 14 = True := ixT (by omega) (by omega)
          have w4 : zix (nI (7 * v + a)) = 7 * v + a := ixI (by omega)
          have eK : uI J1 428 (6 * i + b) c = K1 := rfl
          have k66 : K1 384 66 = earnS P r a b (r (40 + b)) (nI 0) := (uI_off (by omega)).trans j5
          have k68 : K1 384 68 = nI i := (uI_off (by omega)).trans j68'
          rw [B_X12_fillsBrings_151]
          simp only [gM G, if_true, true_and, y1, y2, hc, eK, zt58, zx, m_upNow _ G hv hK rK, bI_eq, hK.2.1, pk_mul, nI_add, w1, w2, w3, w4, (hK.2.2.2.2.2.2.2.2.1 a ha).1, hK.2.2.2.2.2.2.2.2.2.1 b hb', rK 55 (by omega), e2, k66, k68]
          rfl
        have wrap : ∀ c : Int32, c &&& nI 1 = c → c = (if gnS P r a b = NEV then nI 0 else nI 1) → ∃ K, evk zcod none (d + 6) zc_X12_fillsBrings 151 [(0, .ref 384), (1, .int (nI a)), (2, .int (nI b))] [.int c, .int (nI (6 * i + b)), .ref 428] (S, J1, L) = evk zcod none (d + 6) zc_X12_fillsBrings 219 [(0, .ref 384), (1, .int (nI a))] [] (S, K, L) ∧ MC S K P v ∧ RW K r ∧ K 384 68 = nI i ∧ DG K P r a i 6 ∧ Fi (fun x j => mfA x j ∨ (x = 427 ∨ x = 428) ∧ 6 * i ≤ j ∧ j < 6 * i + 6) I K := by
          intro c hc hv2
          obtain ⟨J2, e2, h2, r2, s2, t1, t2, t3, f2⟩ := fin c hc
          obtain ⟨K, eK, k1, k2, k3, k4, k5⟩ := nxt J2 h2 r2 s2 ((f0.tr (f1.up fun x j q => Or.inl q)).tr f2) (fun x hx => by
            by_cases w : x = b
            · subst w
              refine ⟨fun q => ⟨t1.trans hv2, fun z => t2.trans ?_⟩, fun q => by omega⟩
              have g1 : (flyS P r a x (r (40 + x)) (nI 0)).2.1 = nI 1 := Classical.not_not.mp (fun q => z ((gn_is rd).mpr q))
              unfold gnS
              rw [if_pos rd, if_pos g1]
              rfl
            · have := d0 x (by omega)
              rw [(t3 x (by omega)).1, (t3 x (by omega)).2, o1 _ _ (by omega), o1 _ _ (by omega)]
              exact this)
          exact ⟨K, e2.trans eK, k1, k2, k3, k4, k5⟩
        by_cases c : (flyS P r a b (r (40 + b)) (nI 0)).2.1 = nI 1
        · rw [if_neg (fun q => q c)]
          exact wrap (nI 1) (by decide +kernel) (by rw [if_neg (fun q => (gn_is rd).mp q c)])
        · rw [if_pos c, B_X12_fillsBrings_150]
          exact wrap (nI 0) (by decide +kernel) (by rw [if_pos ((gn_is rd).mpr c)])
      · have rd : rdy P r (nI a) (nI b) = false := by
          rw [rdy_nI hv ha hb', decide_eq_false q1, Bool.and_false]
        rw [if_neg (by rw [i_lt]; rw [i_le] at q2; omega)]
        refine nxt J0 h0 r0 j68 f0 (fun x hx => ?_)
        by_cases w : x = b
        · subst w
          have gn : gnS P r a x = NEV := by
            unfold gnS
            rw [rd]
            rfl
          refine ⟨fun q => ⟨?_, fun z => absurd gn z⟩, fun q => by omega⟩
          rw [ef, if_pos gn, c00]
        · exact d0 x (by omega)
