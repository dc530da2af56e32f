theorem sub6 {k A : Nat} (hk : k + 1 ≤ 7) (w : 6 - k = A) : 6 - A = k := by omega
theorem m_wayOf (d : Nat) {S : mS} {I : mI} {L : mJ} {P : mP} {r : mW} (G : Gd S) (hv : PV P) (h : FL I P r 7) (e72 : I 384 72 = nI (nst P r 7 0)) {A : Nat} (hA : A < 7) : evk zcod none (d + 2) zc_X12_fill 102 [(0, .ref 384), (1, .int (nI A)), (2, .int (nI 0))] [] (S, I, L) = some (some (.int (fbS P r A (goN P r A))), (S, I, L)) := by
  have u7 := upN_le (P := P) (r := r) 7
  have bound := (fill_best (r := r) hv 7 0 (by omega) (by omega)).1
  have hC7 := six7 (cnF P r 7) (by rw [cn_up]; omega)
  have key : ∀ k, k ≤ 7 → (7 - k ≤ A ∨ fbS P r A (goN P r A) = -2) → evk zcod none (d + 2) zc_X12_fill 102 [(0, .ref 384), (1, .int (nI A)), (2, .int (nI (upN P r (7 - k))))] [] (S, I, L) = some (some (.int (fbS P r A (goN P r A))), (S, I, L)) := by
    intro k
    induction k with
    | zero =>
      intro hk hle
      have e2 : fbS P r A (goN P r A) = -2 := by
        rcases hle with q | q
        · omega
        · exact q
      rw [B_X12_fill_102]
      simp only [gM G, if_true, h.1, Nat.sub_zero]
      rw [if_pos (nI_le (Nat.le_refl _) (by omega)), B_X12_fill_158, e2]
    | succ k ih =>
      intro hk hle
      by_cases c : ftA P r (6 - k) = true
      · have ui := upN_lt c 7 (by omega)
        have uc := upN_cn (P := P) (r := r) (k + 1) (by omega)
        rw [cnF_s, if_pos c, show 7 - (k + 1) = 6 - k by omega] at uc
        have us : upN P r (7 - k) = upN P r (6 - k) + 1 := by rw [show 7 - k = (6 - k) + 1 by omega, upN_s, if_pos c]
        have nx := ih (by omega)
        rw [us] at nx
        have hC := six7 (cnF P r k) (by omega)
        have nd : nst P r 7 0 / 6 ^ cnF P r k ≤ nst P r 7 0 := Nat.div_le_self _ _
        obtain ⟨p1, -⟩ := h.2 (6 - k) (by omega) c
        have y1 : zin (nI (upN P r (6 - k))) 7 = True := ixT (by omega) (by omega)
        have y2 : zix (nI (upN P r (6 - k))) = upN P r (6 - k) := ixI (by omega)
        have n0 : (nI (6 ^ cnF P r k) = nI 0) = False := eq_false fun q => by
          have := (nI_eq (by omega) (by omega)).mp q
          omega
        rw [B_X12_fill_102, show 7 - (k + 1) = 6 - k by omega]
        simp only [gM G, if_true, h.1]
        rw [if_neg (nI_ge ui (by omega)), pk_sub (by omega), pk_sub (by omega), show upN P r 7 - 1 - upN P r (6 - k) = cnF P r k by omega, m_sixes (d + 1) (show cnF P r k < 8 by omega)]
        simp only [bI_eq, if_true, n0, show (nI 6 = nI 0) = False from eq_false (by decide +kernel), if_false, gM G, true_and, y1, y2, p1, e72, i_div (show nst P r 7 0 < 2147483648 by omega) (show 6 ^ cnF P r k < 2147483648 by omega) hC.2, i_rem (show nst P r 7 0 / 6 ^ cnF P r k < 2147483648 by omega), B_X12_fill_152, nI_add]
        by_cases w : 6 - k = A
        · rw [if_neg (fun q => q (by rw [w]))]
          have nd2 := nst_dig (r := r) hv hA (by rw [← w]; exact c)
          rw [sub6 hk w] at nd2
          rcases nd2 with ⟨q1, q2⟩ | ⟨x, q0, q1, q2⟩
          · rw [q1, q2, if_neg (fun q => q rfl), B_X12_fill_151]
          · rw [q1, q2, if_pos (fun q => by
              have := (nI_eq (by omega) (by omega)).mp q
              omega), B_X12_fill_150, B_X12_fill_151]
        · rw [if_pos (fun q => w ((nI_eq (by omega) (by omega)).mp q))]
          exact nx (by
            rcases hle with q | q
            · exact Or.inl (by omega)
            · exact Or.inr q)
      · have c' : ftA P r (6 - k) = false := by simpa using c
        have us : upN P r (7 - k) = upN P r (6 - k) := by rw [show 7 - k = (6 - k) + 1 by omega, upN_s, c']; rfl
        have nx := ih (by omega)
        rw [us] at nx
        rw [show 7 - (k + 1) = 6 - k by omega]
        refine nx ?_
        rcases hle with q | q
        · by_cases w : 6 - k = A
          · right
            exact fb_nof hv hA (by rw [← w]; exact c')
          · exact Or.inl (by omega)
        · exact Or.inr q
  exact key 7 (by omega) (Or.inl (by omega))
theorem q_fill (d : Nat) {S : mS} {I : mI} {L : mJ} {P : mP} {v : Nat} {r : mW} (G : Gd S) (hv : PV P) (hok : RV P r) (h : MC S I P v) (n : NW I r) (x : Int32) : ∃ J, evM zcod (d + 8) 244 [.ref 384, .int x] (S, I, L) = some (some (.int (aFill P r x)), (S, J, L)) ∧ Fi mj I J := by
  have v1 := hv.1
  have u7 := upN_le (P := P) (r := r) 7
  have hC7 := six7 (cnF P r 7) (by rw [cn_up]; omega)
  obtain ⟨J, e, hf, hm, f⟩ := m_fillsBrings d (L := L) G hv hok h n
  let J1 := uI J 384 72 (-1)
  have f1 : Fi mj J J1 := Fi.u Fi.rf (by unfold mj; omega)
  obtain ⟨K, eK, k1, k2, fK⟩ := m_ways (d + 5) (L := L) G x (6 ^ cnF P r 7) 0 (by omega) J1 (hf.cg (uI_ix (by omega)) (fun x j q1 q2 => uI_off (by omega))) (Or.inl ⟨uI_same _ _ _ _, fun m hm => absurd hm (Nat.not_lt_zero m)⟩)
  obtain ⟨w1, w2⟩ := iv_end hv k2
  have go : evk zcod none (d + 7) zc_X12_fill 17 [(0, .ref 384), (1, .int x)] [] (S, I, L) = evk zcod none (d + 7) zc_X12_fill 90 [(0, .ref 384), (1, .int x)] [] (S, K, L) := by
    rw [B_X12_fill_17]
    simp only [gM G, if_true, e, bV_eq]
    exact eK
  have fF : Fi mj I K := (f.tr f1).tr fK
  rw [E_X12_fill]
  simp only [B_X12_fill_0, gM G, if_true, m_isLoad _ G hv h, bI_eq]
  unfold aFill
  by_cases c : x = -1
  · rw [if_pos c, if_pos c, go, B_X12_fill_90, if_neg (fun q => q c)]
    simp only [gM G, if_true, w2]
    exact ⟨K, rfl, fF⟩
  · rw [if_neg c, if_neg c]
    cases c2 : inN x (nLo P)
    · simp only [Bool.false_eq_true, if_false, not_true_eq_false]
      exact ⟨I, rfl, Fi.rf⟩
    · obtain ⟨a, ha, rfl⟩ := inN_of c2
      simp only [if_true, n10, not_false_eq_true]
      rw [go, B_X12_fill_90, if_pos c, B_X12_fill_100, m_wayOf (d + 5) G hv k1 w1 (show a < 7 by omega), t_nI (by omega), Int.toNat_natCast]
      exact ⟨K, rfl, fF⟩
