/-! the fewest hooks: one answer, class side and reference side -/
def svF (P : mP) (r : mW) (m : Nat) : Nat → Bool
  | 0 => true
  | a + 1 => svF P r m a && (decide (ndN P r a = 0) || !decide (ndN P r a &&& m = 0))
def svB (P : mP) (r : mW) (m : Nat) : Bool := svF P r m 7
theorem svF_s {P : mP} {r : mW} {m a : Nat} : svF P r m (a + 1) = (svF P r m a && (decide (ndN P r a = 0) || !decide (ndN P r a &&& m = 0))) := rfl
theorem svF_dn {P : mP} {r : mW} {m : Nat} : ∀ {n a : Nat}, svF P r m (a + n) = true → svF P r m a = true
  | 0, a, h => h
  | n + 1, a, h => by
    rw [show a + (n + 1) = (a + n) + 1 by omega, svF_s] at h
    exact svF_dn (Bool.and_eq_true_iff.mp h).1
def IsFew (P : mP) (r : mW) (m : Nat) : Prop := m < 2 ^ nHo P ∧ svB P r m = true ∧ ∀ m', m' < 2 ^ nHo P → svB P r m' = true → pc m 7 < pc m' 7 ∨ pc m 7 = pc m' 7 ∧ m ≤ m'
noncomputable def aFew (P : mP) (r : mW) : Int32 := nI (Classical.epsilon (IsFew P r))
theorem aFew_of {P : mP} {r : mW} {m : Nat} (h : IsFew P r m) : aFew P r = nI m := by
  have h2 : IsFew P r (Classical.epsilon (IsFew P r)) := Classical.epsilon_spec (p := IsFew P r) ⟨m, h⟩
  unfold aFew
  congr 1
  have q1 := h.2.2 _ h2.1 h2.2.1
  have q2 := h2.2.2 _ h.1 h.2.1
  omega
theorem hrB_2 {P : mP} {r : mW} {x : Int32} : hrB P r x < 2 ^ nHo P := bs_lt _ _
theorem ndS_2 {P : mP} {r : mW} {a : Nat} : ∀ n, ndS P r a n < 2 ^ nHo P
  | 0 => by
    unfold ndS
    exact Nat.two_pow_pos _
  | b + 1 => by
    rw [ndS_s]
    refine Nat.or_lt_two_pow (ndS_2 b) ?_
    split
    · unfold fhB
      split
      · exact hrB_2
      · exact Nat.two_pow_pos _
    · exact Nat.two_pow_pos _
theorem sv_full {P : mP} {r : mW} : ∀ n, svF P r (2 ^ nHo P - 1) n = true
  | 0 => rfl
  | a + 1 => by
    rw [svF_s, sv_full a, Bool.true_and, Nat.and_two_pow_sub_one_of_lt_two_pow (show ndN P r a < 2 ^ nHo P from ndS_2 5)]
    by_cases c : ndN P r a = 0
    · rw [decide_eq_true c]; rfl
    · rw [decide_eq_false c]; rfl
theorem bit6 : ∀ h, h < 6 → nI 1 <<< (nI h &&& nI 31) = nI (2 ^ h) ∧ 2 ^ h ≤ 32 := by decide +kernel
theorem pc5 : ∀ m, m < 32 → pc m 7 ≤ 5 := by decide +kernel
theorem s_isServed (d : Nat) {S : mS} {I : mI} {L : mJ} {P : mP} {r : mW} (G : Gd S) (hv : PV P) (h7 : ∀ a, a < 7 → I 77 a = nI (ndN P r a)) {m : Nat} (hm : m < 32) : evM zcod (d + 1) 102 [.ref 59, .int (nI m)] (S, I, L) = some (some (.int (if svB P r m = true then nI 1 else nI 0)), (S, I, L)) := by
  have k77 := G.k 77 (k := 20) (n := 7) (by decide +kernel)
  have key : ∀ n a, n + a = 7 → svF P r m a = true → evk zcod none d zc_X2_isServedBy 2 [(0, .ref 59), (1, .int (nI m)), (2, .int (nI a))] [] (S, I, L) = some (some (.int (if svB P r m = true then nI 1 else nI 0)), (S, I, L)) := by
    intro n
    induction n with
    | zero =>
      intro a ha hs
      rw [B_X2_isServedBy_2, if_pos (nI_le (by omega) (by omega)), B_X2_isServedBy_36]
      unfold svB
      rw [show (7 : Nat) = a by omega, hs, if_pos rfl]
    | succ n ih =>
      intro a ha hs
      have hn := ndS_lt (r := r) hv (a := a) 5
      change ndN P r a < 32 at hn
      rw [B_X2_isServedBy_2, if_neg (nI_ge (by omega) (by omega))]
      have hz : zin (nI a) 7 = True := ixT (by omega) (by omega)
      simp only [gFi G, if_true, k77, true_and, hz, ixI (show a < 2147483648 by omega), h7 a (by omega), B_X2_isServedBy_30, nI_add]
      by_cases c : ndN P r a = 0
      · rw [if_pos (by rw [c])]
        exact ih (a + 1) (by omega) (by rw [svF_s, hs, decide_eq_true c]; rfl)
      · rw [if_neg (fun q => c ((nI_eq (by omega) (by omega)).mp q))]
        by_cases c2 : ndN P r a &&& m = 0
        · rw [if_neg (fun q => q ((and32 _ hn _ hm).mpr c2))]
          have : ¬ svB P r m = true := by
            intro q
            unfold svB at q
            have q2 := svF_dn (n := 7 - (a + 1)) (a := a + 1) (by rw [show a + 1 + (7 - (a + 1)) = 7 by omega]; exact q)
            rw [svF_s, decide_eq_false c, decide_eq_true c2] at q2
            simp at q2
          rw [if_neg this]
        · rw [if_pos (fun q => c2 ((and32 _ hn _ hm).mp q))]
          exact ih (a + 1) (by omega) (by rw [svF_s, hs, decide_eq_false c, decide_eq_false c2]; rfl)
  rw [E_X2_isServedBy, B_X2_isServedBy_0]
  exact key 7 0 (by omega) rfl
theorem c_fewest (d : Nat) {S : mS} {I : mI} {L : mJ} {P : mP} {r : mW} (G : Gd S) (hv : PV P) (hr : RV P r) (h : CC S I P r) : ∃ J, evM zcod (d + 8) 133 [.ref 7] (S, I, L) = some (some (.int (aFew P r)), (S, J, L)) ∧ Fi jk I J := by
  have v3 := hv.2.2.1
  obtain ⟨J, e, h7, f⟩ := s_findHooks d (L := L) G hv hr h
  have p32 := (bit6 (nHo P) (by omega)).2
  have key : ∀ n s, n + s = 2 ^ nHo P → ∀ fw c, (c = 6 ∧ fw = 0 ∧ (∀ m, m < s → ¬ svB P r m = true)) ∨ (svB P r fw = true ∧ fw < s ∧ c = pc fw 7 ∧ ∀ m, m < s → svB P r m = true → pc fw 7 < pc m 7 ∨ pc fw 7 = pc m 7 ∧ fw ≤ m) → evk zcod none (d + 7) zc_X11_fewest 28 [(0, .ref 7), (1, .int (nI (2 ^ nHo P))), (2, .int (nI fw)), (3, .int (nI c)), (4, .int (nI s))] [] (S, J, L) = some (some (.int (aFew P r)), (S, J, L)) := by
    intro n
    induction n with
    | zero =>
      intro s hs fw c inv
      rw [B_X11_fewest_28, if_pos (nI_le (by omega) (by omega)), B_X11_fewest_71]
      rcases inv with ⟨_, _, q⟩ | ⟨q1, q2, q3, q4⟩
      · exact absurd (sv_full 7) (q _ (by have := Nat.two_pow_pos (nHo P); omega))
      · rw [aFew_of ⟨by omega, q1, fun m hm => q4 m (by omega)⟩]
    | succ n ih =>
      intro s hs fw c inv
      have s32 : s < 32 := by omega
      have ps := pc5 s s32
      have hc : c < 100 := by
        rcases inv with ⟨q, _⟩ | ⟨_, q2, q3, _⟩
        · omega
        · have := pc5 fw (by omega)
          omega
      rw [B_X11_fewest_28, if_neg (nI_ge (by omega) (by omega))]
      simp only [s_bitCount _ (show s < 128 by omega), bI_eq, if_true, g7 G, s_isServed _ G hv h7 s32, B_X11_fewest_65, nI_add]
      by_cases c1 : c ≤ pc s 7
      · rw [if_pos (nI_le c1 (by omega))]
        refine ih (s + 1) (by omega) fw c ?_
        rcases inv with ⟨q, _⟩ | ⟨q1, q2, q3, q4⟩
        · omega
        · refine Or.inr ⟨q1, by omega, q3, fun m hm hs => ?_⟩
          by_cases w : m = s
          · subst w
            omega
          · exact q4 m (by omega) hs
      · rw [if_neg (nI_ge (by omega) (by omega))]
        by_cases c2 : svB P r s = true
        · rw [if_pos c2, if_neg (by rw [n10]; exact fun q => q)]
          refine ih (s + 1) (by omega) s (pc s 7) (Or.inr ⟨c2, by omega, rfl, fun m hm hs => ?_⟩)
          by_cases w : m = s
          · subst w
            omega
          · rcases inv with ⟨_, _, q⟩ | ⟨q1, q2, q3, q4⟩
            · exact absurd hs (q m (by omega))
            · have := q4 m (by omega) hs
              omega
        · rw [if_neg c2, if_pos rfl]
          refine ih (s + 1) (by omega) fw c ?_
          rcases inv with ⟨q, q0, q'⟩ | ⟨q1, q2, q3, q4⟩
          · exact Or.inl ⟨q, q0, fun m hm hsv => by
              by_cases w : m = s
              · subst w
                exact c2 hsv
              · exact q' m (by omega) hsv⟩
          · exact Or.inr ⟨q1, by omega, q3, fun m hm hsv => by
              by_cases w : m = s
              · subst w
                exact absurd hsv c2
              · exact q4 m (by omega) hsv⟩
  refine ⟨J, ?_, f⟩
  rw [E_X11_fewest]
  simp only [B_X11_fewest_0, g7 G, gSt G is39, if_true, s_size _ (h.1.th G is39 hv), bI_eq, e, bV_eq, (bit6 (nHo P) (by omega)).1]
  exact key (2 ^ nHo P) 0 (by omega) 0 6 (Or.inl ⟨rfl, rfl, fun m hm => absurd hm (Nat.not_lt_zero m)⟩)
theorem ndS_up {P : mP} {r : mW} {a b : Nat} (hv : PV P) (hb : nSi P ≤ b) (h5 : b ≤ 5) : ∀ n, b + n ≤ 5 → ndS P r a (b + n) = ndS P r a b
  | 0, _ => rfl
  | n + 1, hn => by
    have : rdy P r (nI a) (nI (b + n)) = false := by
      cases c : rdy P r (nI a) (nI (b + n))
      · rfl
      · obtain ⟨a', b', ha', hb', ea, eb⟩ := rdy_in c
        have v2 := hv.2.1
        have := (nI_eq (by omega) (by omega)).mp eb
        omega
    rw [show b + (n + 1) = (b + n) + 1 by omega, ndS_s, this, if_neg (by decide), Nat.or_zero]
    exact ndS_up hv hb h5 n (by omega)
theorem ndN_si {P : mP} {r : mW} {a : Nat} (hv : PV P) : ndN P r a = ndS P r a (nSi P) := by
  have v2 := hv.2.1
  have := ndS_up (r := r) (a := a) hv (Nat.le_refl (nSi P)) v2 (5 - nSi P) (by omega)
  rw [show nSi P + (5 - nSi P) = 5 by omega] at this
  exact this
theorem ndS_no {P : mP} {r : mW} {a : Nat} (h : ∀ b, rdy P r (nI a) (nI b) = false) : ∀ n, ndS P r a n = 0
  | 0 => rfl
  | n + 1 => by rw [ndS_s, h n, ndS_no h n, if_neg (by decide)]; rfl
