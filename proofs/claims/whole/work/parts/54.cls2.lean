/-! what the class answers, second group -/
def bitV (P : mP) (r : mW) (a b : Nat) (h : Int32) (v : Int32) : Bool := decide ((flyS P r a b v (nI 0)).2.2.1 = h)
theorem c_comesTo (d : Nat) {S : mS} {I : mI} {L : mJ} {P : mP} {r : mW} (G : Gd S) (hv : PV P) (hr : RV P r) (h : CC S I P r) {a b : Nat} (ha : a < nLo P) (hb : b < nSi P) (v hk : Int32) : ∃ J, evM zcod (d + 6) 149 [.ref 7, .int (nI a), .int (nI b), .int v, .int hk] (S, I, L) = some (some (.int (if (okI v (-3) (nI 3) && bitV P r a b hk v) = true then nI 1 else nI 0)), (S, J, L)) ∧ Fi jk I J := by
  rw [E_X11_comesTo]
  simp only [B_X11_comesTo_0, B_X11_comesTo_12, B_X11_comesTo_39, B_X11_comesTo_40, w_in, bI_eq, if_true, g7 G]
  cases c : okI v (-3) (nI 3)
  · simp only [Bool.false_eq_true, if_false, not_true_eq_false, Bool.false_and]
    exact ⟨I, rfl, Fi.rf⟩
  · simp only [if_true, n10, not_false_eq_true, Bool.true_and]
    obtain ⟨J, e, f, j3, j4, j5, j6, j7⟩ := s_fly d (L := L) G hv hr h ha hb v (nI 0)
    simp only [e, bV_eq, if_true, g7 G, B_X11_comesTo_0, B_X11_comesTo_12, B_X11_comesTo_39, B_X11_comesTo_40, j5, b0, b1]
    unfold bitV
    by_cases c2 : (flyS P r a b v (nI 0)).2.2.1 = hk
    · rw [if_neg (fun q => q c2), decide_eq_true c2]
      exact ⟨J, rfl, fl_jk f⟩
    · rw [if_pos c2, decide_eq_false c2]
      exact ⟨J, rfl, fl_jk f⟩
/-- the pull nearest, as the class seeks it: away by away -/
def patF (f : Int32 → Bool) (p : Int32) : Nat → Nat → Int32
  | 0, _ => -100
  | n + 1, w => if (okI (p - nI w) (-3) (nI 3) && f (p - nI w)) = true then p - nI w else if (okI (p + nI w) (-3) (nI 3) && f (p + nI w)) = true then p + nI w else patF f p n (w + 1)
def aPatches (P : mP) (r : mW) (i k h : Int32) : Int32 := if (rdy P r i k && inN h (nHo P)) = true then patF (bitV P r i.toInt.toNat k.toInt.toNat h) (r (40 + k.toInt.toNat)) 7 0 else -1000
theorem c_patches (d : Nat) {S : mS} {I : mI} {L : mJ} {P : mP} {r : mW} (G : Gd S) (hv : PV P) (hr : RV P r) (h : CC S I P r) (i k hk : Int32) : ∃ J, evM zcod (d + 7) 129 [.ref 7, .int i, .int k, .int hk] (S, I, L) = some (some (.int (aPatches P r i k hk)), (S, J, L)) ∧ Fi jk I J := by
  rw [E_X11_patches]
  simp only [B_X11_patches_0, B_X11_patches_26, g7 G, gSt G is39, if_true, s_isReady _ G is39 hv h.1, s_has _ (h.1.th G is39 hv), bI_eq]
  unfold aPatches
  cases c4 : rdy P r i k
  · simp only [if_false, Bool.false_eq_true, if_true, Bool.false_and]
    exact ⟨I, rfl, Fi.rf⟩
  · cases c5 : inN hk (nHo P)
    · simp only [if_false, Bool.false_eq_true, if_true, n10, not_true_eq_false, Bool.and_false]
      exact ⟨I, rfl, Fi.rf⟩
    · simp only [if_true, n10, not_false_eq_true, if_false, Bool.and_self]
      obtain ⟨a, b, ha, hb, rfl, rfl⟩ := rdy_in c4
      have v := hv
      obtain ⟨v1, v2, -⟩ := v
      simp only [B_X11_patches_30, g7 G, gSt G is39, if_true, s_atN _ (h.1.ts G is39 hv) hb (show 3 < 4 by omega), (h.1.si hb).2.2.2, bI_eq, t_nI (show a < 2147483648 by omega), t_nI (show b < 2147483648 by omega), Int.toNat_natCast]
      have key : ∀ n w, n + w = 7 → ∀ I, CC S I P r → ∃ J, evk zcod none (d + 6) zc_X11_patches 47 [(0, .ref 7), (1, .int (nI a)), (2, .int (nI b)), (3, .int hk), (4, .int (r (40 + b))), (5, .int (nI w))] [] (S, I, L) = some (some (.int (patF (bitV P r a b hk) (r (40 + b)) n w)), (S, J, L)) ∧ Fi jk I J := by
        intro n
        induction n with
        | zero =>
          intro w hw I h
          refine ⟨I, ?_, Fi.rf⟩
          rw [B_X11_patches_47, if_pos (nI_lt (by omega) (by omega)), B_X11_patches_102]
          rfl
        | succ n ih =>
          intro w hw I h
          obtain ⟨J, e, f⟩ := c_comesTo d (L := L) G hv hr h ha hb (r (40 + b) - nI w) hk
          rw [B_X11_patches_47, if_neg (nI_nlt (by omega) (by omega))]
          simp only [g7 G, if_true, e, bI_eq]
          unfold patF
          cases c : (okI (r (40 + b) - nI w) (-3) (nI 3) && bitV P r a b hk (r (40 + b) - nI w))
          · simp only [Bool.false_eq_true, if_false, if_true, B_X11_patches_75, g7 G]
            have h2 := h.fi f
            obtain ⟨K, e2, f2⟩ := c_comesTo d (L := L) G hv hr h2 ha hb (r (40 + b) + nI w) hk
            simp only [e2, bI_eq, if_true]
            cases c2 : (okI (r (40 + b) + nI w) (-3) (nI 3) && bitV P r a b hk (r (40 + b) + nI w))
            · simp only [Bool.false_eq_true, if_false, if_true, B_X11_patches_96, nI_add]
              obtain ⟨K2, e3, f3⟩ := ih (w + 1) (by omega) K (h2.fi f2)
              exact ⟨K2, e3, (f.tr f2).tr f3⟩
            · simp only [if_true, n10, if_false]
              exact ⟨K, rfl, f.tr f2⟩
          · simp only [if_true, n10, if_false]
            exact ⟨J, rfl, f⟩
      exact key 7 0 (by omega) I h
/-- the heaviest weight lifted -/
def lifF (P : mP) (r : mW) (b : Nat) (x : Int32) : Nat → Int32
  | 0 => -2
  | w + 1 => if (goS P r (stS P r) (sta P (30 + b)) (nI (w + 1)) (r (40 + b)) (r 55) 48 0 x (nI 0)).2.1 = nI 1 ∨ (goS P r (stS P r) (sta P (30 + b)) (nI (w + 1)) (r (40 + b)) (r 55) 48 0 x (nI 0)).2.1 = nI 2 then nI (w + 1) else lifF P r b x w
def aLifts (P : mP) (r : mW) (k x : Int32) : Int32 := if (ftS P r k && okI x (nI 0) (nI 19)) = true then lifF P r k.toInt.toNat x 9 else -1
theorem c_isAtRim (d : Nat) {S : mS} {I : mI} {L : mJ} (G : Gd S) {o : Int32} (ho : I 58 4 = o) : evM zcod (d + 1) 88 [.ref 58] (S, I, L) = some (some (.int (if o = nI 1 ∨ o = nI 2 then nI 1 else nI 0)), (S, I, L)) := by
  rw [E_X1_isAtRim]
  simp only [B_X1_isAtRim_0, B_X1_isAtRim_16, B_X1_isAtRim_20, B_X1_isAtRim_21, gCo G, if_true, ho, b0, b1]
  by_cases c1 : o = nI 1
  · rw [if_pos c1, if_pos (Or.inl c1)]
  · rw [if_neg c1]
    by_cases c2 : o = nI 2
    · rw [if_neg (fun q => q c2), if_pos (Or.inr c2)]
    · rw [if_pos c2, if_neg (by rintro (q | q); exact c1 q; exact c2 q)]
theorem co_jk {I J : mI} (f : Fi coA I J) : Fi jk I J := f.up fun a j q => by unfold coA at q; unfold jk; omega
theorem c_lifts (d : Nat) {S : mS} {I : mI} {L : mJ} {P : mP} {r : mW} (G : Gd S) (hv : PV P) (hr : RV P r) (h : CC S I P r) (k x : Int32) : ∃ J, evM zcod (d + 5) 131 [.ref 7, .int k, .int x] (S, I, L) = some (some (.int (aLifts P r k x)), (S, J, L)) ∧ Fi jk I J := by
  rw [E_X11_lifts]
  simp only [B_X11_lifts_0, B_X11_lifts_21, g7 G, gSt G is39, if_true, s_silkAtFoot _ G is39 hv h.1, w_in, bI_eq]
  unfold aLifts
  cases c4 : ftS P r k
  · simp only [if_false, Bool.false_eq_true, if_true, Bool.false_and]
    exact ⟨I, rfl, Fi.rf⟩
  · cases c5 : okI x (nI 0) (nI 19)
    · simp only [if_false, Bool.false_eq_true, if_true, n10, not_true_eq_false, Bool.and_false]
      exact ⟨I, rfl, Fi.rf⟩
    · simp only [if_true, n10, not_false_eq_true, if_false, Bool.and_self]
      have v := hv
      obtain ⟨v1, v2, -⟩ := v
      unfold ftS at c4
      obtain ⟨b, hb, rfl⟩ := inN_of (Bool.and_eq_true_iff.mp c4).1
      obtain ⟨u, hu, rfl⟩ := okI_n c5 (by omega)
      have hx : 0 ≤ (nI u).toInt ∧ (nI u).toInt ≤ 19 := by rw [t_nI (by omega)]; omega
      simp only [B_X11_lifts_23, g7 G, gSt G is39, if_true, s_atN _ (h.1.ts G is39 hv) hb (show 3 < 4 by omega), s_atN _ (h.1.ts G is39 hv) hb (show 0 < 4 by omega), h.1.si hb, bI_eq, t_nI (show b < 2147483648 by omega), Int.toNat_natCast]
      have key : ∀ w, w < 10 → ∀ I, CC S I P r → ∃ J, evk zcod none (d + 4) zc_X11_lifts 54 [(0, .ref 7), (2, .int (nI u)), (3, .int (sta P (30 + b))), (4, .int (r (40 + b))), (5, .int (nI w))] [] (S, I, L) = some (some (.int (lifF P r b (nI u) w)), (S, J, L)) ∧ Fi jk I J := by
        intro w
        induction w with
        | zero =>
          intro hw I h
          refine ⟨I, ?_, Fi.rf⟩
          rw [B_X11_lifts_54, if_pos (nI_le (by omega) (by omega)), B_X11_lifts_100]
          rfl
        | succ w ih =>
          intro hw I h
          obtain ⟨J, e, f, j3, j4, j5, j6, jB⟩ := s_go d (L := L) G hv hr h (sta P (30 + b)) (nI (w + 1)) (r (40 + b)) (nI u) (r 55) (n := 48) (by omega) hx
          rw [B_X11_lifts_54, if_neg (nI_ge (by omega) (by omega))]
          simp only [g7 G, gSt G is39, if_true, h.1.ti, e, bV_eq, c_isAtRim _ G j4, bI_eq]
          unfold lifF
          by_cases c : (goS P r (stS P r) (sta P (30 + b)) (nI (w + 1)) (r (40 + b)) (r 55) 48 0 (nI u) (nI 0)).2.1 = nI 1 ∨ (goS P r (stS P r) (sta P (30 + b)) (nI (w + 1)) (r (40 + b)) (r 55) 48 0 (nI u) (nI 0)).2.1 = nI 2
          · have c' := c
            unfold stS at c'
            simp only [if_pos c, if_pos c', n10, if_false]
            exact ⟨J, rfl, co_jk f⟩
          · have c' := c
            unfold stS at c'
            simp only [if_neg c, if_neg c', if_true, B_X11_lifts_94]
            obtain ⟨K, e2, f2⟩ := ih (by omega) J (h.fi (co_jk f))
            refine ⟨K, ?_, (co_jk f).tr f2⟩
            rw [pk_m1]
            exact e2
      exact key 9 (by omega) I h
