/-! what fills the barn most: the reference's lists, filled -/
theorem DG.cg {I J : mI} {P : mP} {r : mW} {a i b : Nat} (h : DG I P r a i b) (e1 : ∀ x, x < b → J 428 (6 * i + x) = I 428 (6 * i + x)) (e2 : ∀ x, x < b → J 427 (6 * i + x) = I 427 (6 * i + x)) : DG J P r a i b := fun x hx => by
  rw [e1 x hx, e2 x hx]
  exact h x hx
theorem FL.cg {I J : mI} {P : mP} {r : mW} {a : Nat} (h : FL I P r a) (e0 : J 384 68 = I 384 68) (e : ∀ x j, 426 ≤ x → x ≤ 428 → J x j = I x j) : FL J P r a := ⟨e0.trans h.1, fun x hx q => ⟨(e _ _ (by omega) (by omega)).trans (h.2 x hx q).1, (h.2 x hx q).2.cg (fun y _ => e _ _ (by omega) (by omega)) (fun y _ => e _ _ (by omega) (by omega))⟩⟩
theorem ftA_lo {P : mP} {r : mW} {a : Nat} (h : nLo P ≤ a) : ftA P r a = false := by
  unfold ftA
  rw [decide_eq_false (by omega)]
  rfl
theorem upN_lo {P : mP} {r : mW} : ∀ n, upN P r (nLo P + n) = upN P r (nLo P)
  | 0 => rfl
  | n + 1 => by
    rw [show nLo P + (n + 1) = (nLo P + n) + 1 by omega, upN_s, ftA_lo (by omega), upN_lo n]
    rfl
theorem m_fillsBrings (d : Nat) {S : mS} {I : mI} {L : mJ} {P : mP} {v : Nat} {r : mW} (G : Gd S) (hv : PV P) (hok : RV P r) (h : MC S I P v) (n : NW I r) : ∃ J, evM zcod (d + 7) 241 [.ref 384] (S, I, L) = some (none, (S, J, L)) ∧ FL J P r 7 ∧ MC S J P v ∧ Fi mj I J := by
  have v1 := hv.1
  obtain ⟨J1, e1, r1, s1, f1⟩ := m_copies (d + 5) (L := L) G h n
  let J2 := uI J1 384 68 (nI 0)
  have f2 : Fi mj J1 J2 := Fi.u Fi.rf (by unfold mj; omega)
  have outer : ∀ n a, n + a = nLo P → ∀ I, MC S I P v → RW I r → FL I P r a → ∃ J, evk zcod none (d + 6) zc_X12_fillsBrings 11 [(0, .ref 384), (1, .int (nI a))] [] (S, I, L) = some (none, (S, J, L)) ∧ FL J P r (nLo P) ∧ MC S J P v ∧ Fi mj I J := by
    intro n
    induction n with
    | zero =>
      intro a ha I h hr hf
      refine ⟨I, ?_, by rw [show nLo P = a by omega]; exact hf, h, Fi.rf⟩
      rw [B_X12_fillsBrings_11]
      simp only [gM G, if_true, true_and, h.2.1, zv2 h.1, h.2.2.1, B_X12_fillsBrings_245]
      rw [if_pos (nI_le (by omega) (by omega))]
    | succ n ih =>
      intro a ha I h hr hf
      have z1 : zin (nI (7 + a)) 58 = True := ixT (by omega) (by omega)
      have z2 : zix (nI (7 + a)) = 7 + a := ixI (by omega)
      have ul := upN_le (P := P) (r := r) a
      rw [B_X12_fillsBrings_11]
      simp only [gM G, if_true, true_and, h.2.1, zv2 h.1, h.2.2.1, nI_add, z1, z2, hr (7 + a) (by omega)]
      rw [if_neg (nI_ge (by omega) (by omega))]
      by_cases c : r (7 + a) = nI 0
      · have fa : ftA P r a = true := by
          unfold ftA
          rw [decide_eq_true (show a < nLo P by omega), decide_eq_true c]
          rfl
        have ua : upN P r (a + 1) = upN P r a + 1 := by rw [upN_s, if_pos fa]
        rw [if_pos c, B_X12_fillsBrings_39]
        obtain ⟨J, e, h2, r2, s2, d2, f2⟩ := m_digits d (L := L) G hv hok (i := upN P r a) (show a < nLo P by omega) c (by omega) 6 0 (by omega) I h hr hf.1 (fun x hx => absurd hx (Nat.not_lt_zero x))
        let K := uI (uI J 426 (upN P r a) (nI a)) 384 68 (nI (upN P r a + 1))
        have fK : Fi mj J K := Fi.u (Fi.u Fi.rf (by unfold mj; omega)) (by unfold mj; omega)
        have f2' : Fi mj I J := f2.up fun x j q => by unfold mfA at q; unfold mj; omega
        have rK : RW K r := fun j q => (uI_off (by omega)).trans ((uI_off (by omega)).trans (r2 j q))
        have oK : ∀ x j, x = 427 ∨ x = 428 → K x j = J x j := fun x j q => (uI_off (by omega)).trans (uI_off (by omega))
        obtain ⟨M, eM, m1, m2, fM⟩ := ih (a + 1) (by omega) K (h2.fi fK) rK ⟨by rw [ua]; exact uI_same _ _ _ _, fun x hx q => by
          by_cases w : x = a
          · subst w
            exact ⟨(uI_off (by omega)).trans (uI_same _ _ _ _), d2.cg (fun y _ => oK _ _ (Or.inr rfl)) (fun y _ => oK _ _ (Or.inl rfl))⟩
          · have lt := upN_lt q a (by omega)
            obtain ⟨p1, p2⟩ := hf.2 x (by omega) q
            refine ⟨(uI_off (by omega)).trans ((uI_ix (by omega)).trans ((f2 _ _ (by unfold mfA; omega)).trans p1)), p2.cg (fun y hy => (oK _ _ (Or.inr rfl)).trans (f2 _ _ (by unfold mfA; omega))) (fun y hy => (oK _ _ (Or.inl rfl)).trans (f2 _ _ (by unfold mfA; omega)))⟩⟩
        refine ⟨M, ?_, m1, m2, (f2'.tr fK).tr fM⟩
        have w1 : zin (nI (upN P r a)) 7 = True := ixT (by omega) (by omega)
        have w2 : zix (nI (upN P r a)) = upN P r a := ixI (by omega)
        have s3 : uI J 426 (upN P r a) (nI a) 384 68 = nI (upN P r a) := (uI_off (by omega)).trans s2
        rw [e, B_X12_fillsBrings_219]
        simp only [gM G, if_true, true_and, s2, w1, w2, s3, nI_add, B_X12_fillsBrings_239]
        exact eM
      · have fa : ftA P r a = false := by
          unfold ftA
          rw [decide_eq_false c, Bool.and_false]
        have ua : upN P r (a + 1) = upN P r a := by rw [upN_s, fa]; rfl
        rw [if_neg c, B_X12_fillsBrings_239, nI_add]
        exact ih (a + 1) (by omega) I h hr ⟨by rw [ua]; exact hf.1, fun x hx q => hf.2 x (by
          by_cases w : x = a
          · subst w
            rw [fa] at q
            cases q
          · omega) q⟩
  obtain ⟨J, e, j1, j2, j3⟩ := outer (nLo P) 0 (by omega) J2 ((h.fi (copA_mj f1)).fi f2) (fun j q => (uI_off (by omega)).trans (r1 j q)) ⟨uI_same _ _ _ _, fun x hx => absurd hx (Nat.not_lt_zero x)⟩
  refine ⟨J, ?_, ⟨?_, fun x hx q => j1.2 x ?_ q⟩, j2, ((copA_mj f1).tr f2).tr j3⟩
  · rw [E_X12_fillsBrings]
    simp only [B_X12_fillsBrings_0, gM G, if_true, e1, bV_eq]
    exact e
  · have := upN_lo (P := P) (r := r) (7 - nLo P)
    rw [show nLo P + (7 - nLo P) = 7 by omega] at this
    rw [this]
    exact j1.1
  · rcases Nat.lt_or_ge x (nLo P) with w | w
    · exact w
    · rw [ftA_lo w] at q
      cases q
