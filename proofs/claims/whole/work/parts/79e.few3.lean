/-! the fewest hooks: reference side -/
theorem m_need (d : Nat) {S : mS} {L : mJ} {P : mP} {v : Nat} {r : mW} (G : Gd S) (hv : PV P) (hok : RV P r) {a : Nat} (ha : a < nLo P) (e7 : r (7 + a) = nI 0) : ∀ {I : mI}, MC S I P v → RW I r → ∃ J, evM zcod (d + 7) 245 [.ref 384, .int (nI a)] (S, I, L) = some (some (.int (nI (ndN P r a))), (S, J, L)) ∧ Fi mfA I J := by
  have v1 := hv.1
  have v2 := hv.2.1
  have v3 := hv.2.2.1
  have key : ∀ n b, n + b = nSi P → ∀ I, MC S I P v → RW I r → ∃ J, evk zcod none (d + 6) zc_X12_hooksFor 4 [(0, .ref 384), (1, .int (nI a)), (2, .int (nI (ndS P r a b))), (3, .int (nI b))] [] (S, I, L) = some (some (.int (nI (ndN P r a))), (S, J, L)) ∧ Fi mfA I J := by
    intro n
    induction n with
    | zero =>
      intro b hb I h hr
      refine ⟨I, ?_, Fi.rf⟩
      rw [B_X12_hooksFor_4]
      simp only [gM G, if_true, true_and, h.2.1, zv2 h.1, h.2.2.2.1, B_X12_hooksFor_126]
      rw [if_pos (nI_le (by omega) (by omega)), ndN_si hv, show nSi P = b by omega]
    | succ n ih =>
      intro b hb I h hr
      have hb' : b < nSi P := by omega
      have hv2 := h.1
      have z1 : zin (nI (35 + b)) 58 = True := ixT (by omega) (by omega)
      have z2 : zix (nI (35 + b)) = 35 + b := ixI (by omega)
      have z3 : zin (nI (40 + b)) 58 = True := ixT (by omega) (by omega)
      have z4 : zix (nI (40 + b)) = 40 + b := ixI (by omega)
      rw [B_X12_hooksFor_4]
      simp only [gM G, if_true, true_and, h.2.1, zv2 h.1, h.2.2.2.1, nI_add, z1, z2, hr (35 + b) (by omega)]
      rw [if_neg (nI_ge hb' (by omega))]
      rcases hok.foot hb' hv with ⟨q1, q2⟩ | ⟨q1, q2⟩
      · have rd : rdy P r (nI a) (nI b) = true := by
          rw [rdy_nI hv ha hb', decide_eq_true e7, decide_eq_true q1]
          rfl
        rw [if_pos (by rw [i_lt]; rw [i_le] at q2; omega), B_X12_hooksFor_32]
        obtain ⟨J, e, f, j1, j2, j3, j4, j5⟩ := m_fliesFrom d (L := L) G hv h hr ha hb' (nI 0) (r (40 + b))
        have hJ := h.fi (mf_mj f)
        have rJ := hr.mf f
        simp only [gM G, if_true, true_and, nI_add, z3, z4, hr (40 + b) (by omega), e, bV_eq]
        have step : ∀ n h, n + h = nHo P → (flyS P r a b (r (40 + b)) (nI 0)).2.1 = nI 1 → evk zcod none (d + 6) zc_X12_hooksFor 51 [(0, .ref 384), (1, .int (nI a)), (2, .int (nI (ndS P r a b ||| bs (rcP P r (flyS P r a b (r (40 + b)) (nI 0)).2.2.2.1) h))), (3, .int (nI b)), (4, .int (nI h))] [] (S, J, L) = evk zcod none (d + 6) zc_X12_hooksFor 120 [(0, .ref 384), (1, .int (nI a)), (2, .int (nI (ndS P r a b ||| hrB P r (flyS P r a b (r (40 + b)) (nI 0)).2.2.2.1))), (3, .int (nI b))] [] (S, J, L) := by
          intro n
          induction n with
          | zero =>
            intro h' hh c
            rw [B_X12_hooksFor_51]
            simp only [gM G, if_true, true_and, hJ.2.1, zv2 hJ.1, hJ.2.2.2.2.1]
            rw [if_pos (nI_le (by omega) (by omega))]
            unfold hrB
            rw [show nHo P = h' by omega]
          | succ n ih2 =>
            intro h' hh c
            have y1 : zin (nI (50 + h')) 58 = True := ixT (by omega) (by omega)
            have y2 : zix (nI (50 + h')) = 50 + h' := ixI (by omega)
            have y3 : zin (nI (5 * v + h')) 10 = True := ixT (by omega) (by omega)
            have y4 : zix (nI (5 * v + h')) = 5 * v + h' := ixI (by omega)
            rw [B_X12_hooksFor_51]
            simp only [gM G, if_true, true_and, hJ.2.1, zv2 hJ.1, hJ.2.2.2.2.1, j2, j4]
            rw [if_neg (nI_ge (by omega) (by omega)), if_neg (fun q => q c)]
            simp only [nI_add, y1, y2, y3, y4, if_true, rJ (50 + h') (by omega), m_off, bI_eq, gM G, true_and, hJ.2.1, pk_mul, (hJ.2.2.2.2.2.2.2.2.2.2.1 h' (by omega)).1, B_X12_hooksFor_114]
            have b1 : bs (rcP P r (flyS P r a b (r (40 + b)) (nI 0)).2.2.2.1) h' < 32 := bs_le (m := 5) _ (by omega)
            by_cases w : sta P (40 + h') < hoff (r (50 + h')) (flyS P r a b (r (40 + b)) (nI 0)).2.2.2.1
            · rw [if_pos w]
              have e2 : bs (rcP P r (flyS P r a b (r (40 + b)) (nI 0)).2.2.2.1) (h' + 1) = bs (rcP P r (flyS P r a b (r (40 + b)) (nI 0)).2.2.2.1) h' := by
                have e3 : rcP P r (flyS P r a b (r (40 + b)) (nI 0)).2.2.2.1 h' = false := by
                  unfold rcP
                  rw [decide_eq_true w]
                  rfl
                show bs _ h' + _ = _
                rw [e3, if_neg (by decide), Nat.add_zero]
              have := ih2 (h' + 1) (by omega) c
              rw [e2] at this
              exact this
            · rw [if_neg w]
              have e3 : rcP P r (flyS P r a b (r (40 + b)) (nI 0)).2.2.2.1 h' = true := by
                unfold rcP
                rw [decide_eq_false w]
                rfl
              have e4 := bs_or (P := rcP P r (flyS P r a b (r (40 + b)) (nI 0)).2.2.2.1) (n := h') (by omega) e3
              have p2 := (bit5 h' (by omega))
              have b2 : bs (rcP P r (flyS P r a b (r (40 + b)) (nI 0)).2.2.2.1) (h' + 1) < 32 := bs_le (m := 5) _ (by omega)
              have e5 : nI (ndS P r a b ||| bs (rcP P r (flyS P r a b (r (40 + b)) (nI 0)).2.2.2.1) h') ||| (nI 1 <<< (nI h' &&& nI 31)) = nI (ndS P r a b ||| bs (rcP P r (flyS P r a b (r (40 + b)) (nI 0)).2.2.2.1) (h' + 1)) := by
                rw [← (or32 _ (ndS_lt hv b) _ b1).1, Int32.or_assoc, e4, (or32 _ (ndS_lt hv b) _ b2).1]
              rw [e5]
              exact ih2 (h' + 1) (by omega) c
        have out : evk zcod none (d + 6) zc_X12_hooksFor 51 [(0, .ref 384), (1, .int (nI a)), (2, .int (nI (ndS P r a b))), (3, .int (nI b)), (4, .int (nI 0))] [] (S, J, L) = evk zcod none (d + 6) zc_X12_hooksFor 120 [(0, .ref 384), (1, .int (nI a)), (2, .int (nI (ndS P r a (b + 1)))), (3, .int (nI b))] [] (S, J, L) := by
          rw [ndS_s, rd, if_pos rfl]
          unfold fhB
          by_cases c : (flyS P r a b (r (40 + b)) (nI 0)).2.1 = nI 1
          · rw [if_pos c]
            have := step (nHo P) 0 (by omega) c
            rw [show bs (rcP P r (flyS P r a b (r (40 + b)) (nI 0)).2.2.2.1) 0 = 0 from rfl, Nat.or_zero] at this
            exact this
          · rw [if_neg c, Nat.or_zero, B_X12_hooksFor_51]
            simp only [gM G, if_true, true_and, hJ.2.1, zv2 hJ.1, hJ.2.2.2.2.1, j2]
            rw [if_pos (show ¬ (flyS P r a b (r (40 + b)) (nI 0)).2.1 = nI 1 from c), ite_self]
        obtain ⟨K, eK, fK⟩ := ih (b + 1) (by omega) J hJ rJ
        refine ⟨K, ?_, f.tr fK⟩
        rw [out, B_X12_hooksFor_120, nI_add]
        exact eK
      · have rd : rdy P r (nI a) (nI b) = false := by
          rw [rdy_nI hv ha hb', decide_eq_false q1, Bool.and_false]
        rw [if_neg (by rw [i_lt]; rw [i_le] at q2; omega), B_X12_hooksFor_120, nI_add]
        have := ih (b + 1) (by omega) I h hr
        rw [ndS_s, rd, if_neg (by decide), Nat.or_zero] at this
        exact this
  intro I h hr
  rw [E_X12_hooksFor, B_X12_hooksFor_0]
  exact key (nSi P) 0 (by omega) I h hr
