/-! the fewest hooks: what the reference answers -/
theorem nd0 {P : mP} {r : mW} (hv : PV P) {a : Nat} (h : nLo P ≤ a) (h9 : a < 100) : ndN P r a = 0 := by
  have v1 := hv.1
  refine ndS_no (fun b => ?_) 5
  cases c : rdy P r (nI a) (nI b)
  · rfl
  · obtain ⟨a', b', ha', hb', ea, eb⟩ := rdy_in c
    have := (nI_eq (by omega) (by omega)).mp ea
    omega
theorem svF_up {P : mP} {r : mW} (hv : PV P) {m : Nat} : ∀ n, nLo P + n < 100 → svF P r m (nLo P + n) = svF P r m (nLo P)
  | 0, _ => rfl
  | n + 1, h => by
    rw [show nLo P + (n + 1) = (nLo P + n) + 1 by omega, svF_s, nd0 hv (by omega) (by omega), svF_up hv n (by omega)]
    simp
theorem sv_lo {P : mP} {r : mW} (hv : PV P) {m : Nat} : svF P r m (nLo P) = svB P r m := by
  have v1 := hv.1
  have := svF_up (r := r) hv (m := m) (7 - nLo P) (by omega)
  rw [show nLo P + (7 - nLo P) = 7 by omega] at this
  exact this.symm
theorem q_fewest (d : Nat) {S : mS} {I : mI} {L : mJ} {P : mP} {v : Nat} {r : mW} (G : Gd S) (hv : PV P) (hok : RV P r) (h : MC S I P v) (n : NW I r) : ∃ J, evM zcod (d + 9) 246 [.ref 384] (S, I, L) = some (some (.int (aFew P r)), (S, J, L)) ∧ Fi mj I J := by
  have v1 := hv.1
  have v3 := hv.2.2.1
  obtain ⟨J1, e1, r1, s1, f1⟩ := m_copies (d + 7) (L := L) G h n
  have h1 := h.fi (copA_mj f1)
  have outer : ∀ n a, n + a = nLo P → ∀ I, MC S I P v → RW I r → (∀ j, j < a → I 429 j = nI (ndN P r j)) → ∃ J, evk zcod none (d + 8) zc_X12_fewest 6 [(0, .ref 384), (1, .int (nI a))] [] (S, I, L) = evk zcod none (d + 8) zc_X12_fewest 52 [(0, .ref 384)] [] (S, J, L) ∧ MC S J P v ∧ RW J r ∧ (∀ a, a < nLo P → J 429 a = nI (ndN P r a)) ∧ Fi mj I J := by
    intro n
    induction n with
    | zero =>
      intro a ha I h hr hj
      refine ⟨I, ?_, h, hr, fun j q => hj j (by omega), Fi.rf⟩
      rw [B_X12_fewest_6]
      simp only [gM G, if_true, true_and, h.2.1, zv2 h.1, h.2.2.1]
      rw [if_pos (nI_le (by omega) (by omega))]
    | succ n ih =>
      intro a ha I h hr hj
      have z1 : zin (nI (7 + a)) 58 = True := ixT (by omega) (by omega)
      have z2 : zix (nI (7 + a)) = 7 + a := ixI (by omega)
      have put : ∀ I', MC S I' P v → RW I' r → (∀ j, j < a → I' 429 j = nI (ndN P r j)) → ∃ J, evk zcod none (d + 8) zc_X12_fewest 45 [(0, .ref 384), (1, .int (nI a))] [.int (nI (ndN P r a)), .int (nI a), .ref 429] (S, I', L) = evk zcod none (d + 8) zc_X12_fewest 52 [(0, .ref 384)] [] (S, J, L) ∧ MC S J P v ∧ RW J r ∧ (∀ a, a < nLo P → J 429 a = nI (ndN P r a)) ∧ Fi mj I' J := by
        intro I' h' hr' hj'
        have f0 : Fi mj I' (uI I' 429 a (nI (ndN P r a))) := Fi.u Fi.rf (by unfold mj; omega)
        obtain ⟨J, e, j1, j2, j3, f⟩ := ih (a + 1) (by omega) (uI I' 429 a (nI (ndN P r a))) (h'.fi f0) (fun j q => (uI_off (by omega)).trans (hr' j q)) (fun j q => by
          by_cases w : j = a
          · rw [w]; exact uI_same _ _ _ _
          · rw [uI_ix w]; exact hj' j (by omega))
        refine ⟨J, ?_, j1, j2, j3, f0.tr f⟩
        rw [B_X12_fewest_45]
        simp only [gM G, true_and]
        rw [if_pos (ixP (by omega) (by omega)), ixI (by omega), nI_add]
        exact e
      rw [B_X12_fewest_6]
      simp only [gM G, if_true, true_and, h.2.1, zv2 h.1, h.2.2.1, nI_add, z1, z2, hr (7 + a) (by omega)]
      rw [if_neg (nI_ge (by omega) (by omega))]
      by_cases c : r (7 + a) = nI 0
      · obtain ⟨J, e, f⟩ := m_need (d + 1) (L := L) G hv hok (by omega) c h hr
        obtain ⟨K, eK, k1, k2, k3, fK⟩ := put J (h.fi (mf_mj f)) (hr.mf f) (fun j q => (f 429 j (by unfold mfA; omega)).trans (hj j q))
        rw [if_neg (fun q => q c)]
        simp only [e, bI_eq, if_true]
        exact ⟨K, eK, k1, k2, k3, (mf_mj f).tr fK⟩
      · have e0 : ndN P r a = 0 := ndS_no (fun b => by
          cases c2 : rdy P r (nI a) (nI b)
          · rfl
          · exfalso
            unfold rdy ftL at c2
            simp only [Bool.and_eq_true, decide_eq_true_eq] at c2
            rw [t_nI (by omega), Int.toNat_natCast] at c2
            exact c c2.1.2) 5
        have := put I h hr hj
        rw [e0] at this
        rw [if_pos c, B_X12_fewest_44]
        exact this
  obtain ⟨J2, e2, h2, r2, j2, f2⟩ := outer (nLo P) 0 (by omega) J1 h1 r1 (fun j q => absurd q (Nat.not_lt_zero j))
  have p32 := bit6 (nHo P) (by omega)
  have chk : ∀ l s, l < 32 → s < 32 → ∀ g : Bool, ∀ n a, n + a = nLo P → evk zcod none (d + 8) zc_X12_fewest 92 [(0, .ref 384), (1, .int (nI l)), (2, .int (nI s)), (3, .int (if (g && svF P r s a) = true then nI 1 else nI 0)), (4, .int (nI a))] [] (S, J2, L) = evk zcod none (d + 8) zc_X12_fewest 136 [(0, .ref 384), (1, .int (nI l)), (2, .int (nI s)), (3, .int (if (g && svB P r s) = true then nI 1 else nI 0))] [] (S, J2, L) := by
    intro l s hl hs g n
    induction n with
    | zero =>
      intro a ha
      rw [B_X12_fewest_92]
      simp only [gM G, if_true, true_and, h2.2.1, zv2 h2.1, h2.2.2.1]
      rw [if_pos (nI_le (by omega) (by omega)), ← sv_lo hv, show nLo P = a by omega]
    | succ n ih =>
      intro a ha
      have hn := ndS_lt (r := r) hv (a := a) 5
      change ndN P r a < 32 at hn
      have y1 : zin (nI a) 7 = True := ixT (by omega) (by omega)
      have y2 : zix (nI a) = a := ixI (by omega)
      have nx := ih (a + 1) (by omega)
      rw [svF_s] at nx
      rw [B_X12_fewest_92]
      simp only [gM G, if_true, true_and, h2.2.1, zv2 h2.1, h2.2.2.1, y1, y2, j2 a (by omega), B_X12_fewest_130, nI_add]
      rw [if_neg (nI_ge (by omega) (by omega))]
      by_cases c : ndN P r a = 0
      · rw [if_pos (by rw [c])]
        rw [decide_eq_true c, Bool.true_or, Bool.and_true] at nx
        exact nx
      · rw [if_neg (fun q => c ((nI_eq (by omega) (by omega)).mp q))]
        rw [decide_eq_false c, Bool.false_or] at nx
        by_cases c2 : ndN P r a &&& s = 0
        · rw [if_neg (fun q => q ((and32 _ hn _ hs).mpr c2))]
          rw [decide_eq_true c2, Bool.not_true, Bool.and_false, Bool.and_false, if_neg (by decide)] at nx
          exact nx
        · rw [if_pos (fun q => c2 ((and32 _ hn _ hs).mp q))]
          rw [decide_eq_false c2, Bool.not_false, Bool.and_true] at nx
          exact nx
  have one : ∀ s l, s < 2 ^ nHo P → l < 2 ^ nHo P → evk zcod none (d + 8) zc_X12_fewest 68 [(0, .ref 384), (1, .int (nI l)), (2, .int (nI s))] [] (S, J2, L) = evk zcod none (d + 8) zc_X12_fewest 142 [(0, .ref 384), (1, .int (nI (if (!decide (pc l 7 < pc s 7) && svB P r s) = true then s else l))), (2, .int (nI s))] [] (S, J2, L) := by
    intro s l hs hl
    have pl := pc5 l (by omega)
    have ps := pc5 s (by omega)
    rw [B_X12_fewest_68, if_neg (n_pos (n := s) (by omega))]
    simp only [m_bits _ (show s < 128 by omega), m_bits _ (show l < 128 by omega), bI_eq, if_true, B_X12_fewest_87, B_X12_fewest_88]
    have go : ∀ g : Bool, evk zcod none (d + 8) zc_X12_fewest 92 [(0, .ref 384), (1, .int (nI l)), (2, .int (nI s)), (3, .int (if g = true then nI 1 else nI 0)), (4, .int (nI 0))] [] (S, J2, L) = evk zcod none (d + 8) zc_X12_fewest 142 [(0, .ref 384), (1, .int (nI (if (g && svB P r s) = true then s else l))), (2, .int (nI s))] [] (S, J2, L) := by
      intro g
      have := chk l s (by omega) (by omega) g (nLo P) 0 (by omega)
      rw [show svF P r s 0 = true from rfl, Bool.and_true] at this
      rw [this, B_X12_fewest_136]
      cases g && svB P r s
      · rw [if_neg (show ¬ false = true by decide), if_neg (show ¬ false = true by decide), if_pos rfl]
      · rw [if_pos (show true = true from rfl), if_pos (show true = true from rfl), if_neg (by rw [n10]; exact fun q => q)]
    by_cases c : pc l 7 < pc s 7
    · rw [if_pos (nI_lt c (by omega)), decide_eq_true c]
      exact go false
    · rw [if_neg (nI_nlt (by omega) (by omega)), decide_eq_false c]
      exact go true
  have nxt : ∀ s l, s < 2 ^ nHo P → l < 2 ^ nHo P → svB P r l = true → (∀ m, s < m → m < 2 ^ nHo P → svB P r m = true → pc l 7 < pc m 7 ∨ pc l 7 = pc m 7 ∧ l ≤ m) → ∃ l', l' = (if (!decide (pc l 7 < pc s 7) && svB P r s) = true then s else l) ∧ l' < 2 ^ nHo P ∧ svB P r l' = true ∧ ∀ m, s ≤ m → m < 2 ^ nHo P → svB P r m = true → pc l' 7 < pc m 7 ∨ pc l' 7 = pc m 7 ∧ l' ≤ m := by
    intro s l hs hl sl hm
    refine ⟨_, rfl, ?_⟩
    by_cases c : (!decide (pc l 7 < pc s 7) && svB P r s) = true
    · rw [if_pos c]
      simp only [Bool.and_eq_true, Bool.not_eq_true', decide_eq_false_iff_not] at c
      refine ⟨hs, c.2, fun m q1 q2 q3 => ?_⟩
      by_cases w : m = s
      · subst w; omega
      · have := hm m (by omega) q2 q3
        omega
    · rw [if_neg c]
      refine ⟨hl, sl, fun m q1 q2 q3 => ?_⟩
      by_cases w : m = s
      · subst w
        simp only [Bool.and_eq_true, Bool.not_eq_true', decide_eq_false_iff_not] at c
        by_cases w2 : pc l 7 < pc m 7
        · exact Or.inl w2
        · exact absurd ⟨w2, q3⟩ c
      · exact hm m (by omega) q2 q3
  have main : ∀ s l, s < 2 ^ nHo P → l < 2 ^ nHo P → svB P r l = true → (∀ m, s < m → m < 2 ^ nHo P → svB P r m = true → pc l 7 < pc m 7 ∨ pc l 7 = pc m 7 ∧ l ≤ m) → evk zcod none (d + 8) zc_X12_fewest 68 [(0, .ref 384), (1, .int (nI l)), (2, .int (nI s))] [] (S, J2, L) = some (some (.int (aFew P r)), (S, J2, L)) := by
    intro s
    induction s with
    | zero =>
      intro l hs hl sl hm
      obtain ⟨l', el, q1, q2, q3⟩ := nxt 0 l hs hl sl hm
      rw [one 0 l hs hl, ← el, B_X12_fewest_142, B_X12_fewest_68, if_pos (by decide +kernel), B_X12_fewest_148, aFew_of ⟨q1, q2, fun m w1 w2 => q3 m (by omega) w1 w2⟩]
    | succ s ih =>
      intro l hs hl sl hm
      obtain ⟨l', el, q1, q2, q3⟩ := nxt (s + 1) l hs hl sl hm
      rw [one (s + 1) l hs hl, ← el, B_X12_fewest_142, pk_m1]
      exact ih l' (by omega) q1 q2 (fun m w1 w2 w3 => q3 m (by omega) w2 w3)
  refine ⟨J2, ?_, (copA_mj f1).tr f2⟩
  have pp := Nat.two_pow_pos (nHo P)
  rw [E_X12_fewest]
  simp only [B_X12_fewest_0, gM G, if_true, e1, bV_eq, e2, B_X12_fewest_52, true_and, h2.2.1, zv2 h2.1, h2.2.2.2.2.1, p32.1, pk_sub (show 1 ≤ 2 ^ nHo P from pp)]
  exact main _ _ (by omega) (by omega) (sv_full 7) (fun m q1 q2 => by omega)
