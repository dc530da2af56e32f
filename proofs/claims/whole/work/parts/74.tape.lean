/-! the tape, what is told: class side -/
/-- the tape's bytes -/
def XC (I : mI) (tp : Nat) (fp : Int32) (B : Nat → Int32) : Prop := tp ≤ 2000 ∧ I 7 1 = nI tp ∧ I 7 2 = fp ∧ ∀ j, j < tp → I 8 j = B j
/-- a byte of a word: the t-th of four, the highest first -/
def byt (x : Int32) (t : Nat) : Int32 := ((((x.toUInt32 >>> ((nI (24 - 8 * t)).toUInt32 &&& 31)).toInt32).toInt8.toInt32).toInt8.toInt32)
def fed (B : Nat → Int32) (tp : Nat) (x : Int32) : Nat → Int32 := fun j => if tp ≤ j ∧ j < tp + 4 then byt x (j - tp) else B j
theorem sub8 (x : Int32) : x + (-8) = x - nI 8 := by rw [Int32.sub_eq_add_neg, show -(nI 8) = (-8 : Int32) from by decide +kernel]
theorem s_append (d : Nat) {S : mS} {I : mI} {L : mJ} {tp : Nat} {fp : Int32} {B : Nat → Int32} (G : Gd S) (h : XC I tp fp B) (ht : tp + 4 ≤ 2000) (x : Int32) : ∃ J, evM zcod (d + 1) 147 [.ref 7, .int x] (S, I, L) = some (none, (S, J, L)) ∧ XC J (tp + 4) fp (fed B tp x) ∧ Fi (fun a j => a = 8 ∨ a = 7 ∧ j = 1) I J := by
  have key : ∀ n t, n + t = 4 → ∀ I, I 7 1 = nI (tp + t) → I 7 2 = fp → (∀ j, j < tp → I 8 j = B j) → (∀ j, j < t → I 8 (tp + j) = byt x j) → ∃ J, evk zcod none d zc_X11_appendBytes 3 [(0, .ref 7), (1, .int x), (2, .int (nI (8 * n) - nI 8))] [] (S, I, L) = some (none, (S, J, L)) ∧ XC J (tp + 4) fp (fed B tp x) ∧ Fi (fun a j => a = 8 ∨ a = 7 ∧ j = 1) I J := by
    intro n
    induction n with
    | zero =>
      intro t hn I h1 h2 h3 h4
      have e0 : nI (8 * 0) - nI 8 < nI 0 := by decide +kernel
      refine ⟨I, ?_, ⟨ht, by rw [h1, show tp + t = tp + 4 by omega], h2, fun j hj => ?_⟩, Fi.rf⟩
      · rw [B_X11_appendBytes_3, if_pos e0, B_X11_appendBytes_48]
      · unfold fed
        by_cases c : tp ≤ j
        · rw [if_pos ⟨c, hj⟩, ← h4 (j - tp) (by omega), show tp + (j - tp) = j by omega]
        · rw [if_neg (fun q => c q.1)]
          exact h3 j (by omega)
    | succ n ih =>
      intro t hn I h1 h2 h3 h4
      have e8 : nI (8 * (n + 1)) - nI 8 = nI (8 * n) := by rw [pk_sub (by omega), show 8 * (n + 1) - 8 = 8 * n by omega]
      have g := gTop G
      rw [B_X11_appendBytes_3, e8, if_neg (n_pos (n := 8 * n) (by omega))]
      simp only [gTop G, if_true, true_and, h1]
      rw [if_neg (nI_ge (by omega) (by omega)), if_pos ((zin_nI (by omega)).mpr (by omega)), zix_nI (by omega), B_X11_appendBytes_42]
      simp only [uI_off (show (7 : Nat) ≠ 8 by omega), h1, nI_add]
      rw [show nI (8 * n) + (-8 : Int32) = nI (8 * n) - nI 8 from sub8 _]
      have eb : ((((x.toUInt32 >>> ((nI (8 * n)).toUInt32 &&& 31)).toInt32).toInt8.toInt32).toInt8.toInt32) = byt x t := by
        unfold byt
        rw [show 24 - 8 * t = 8 * n by omega]
      rw [eb]
      obtain ⟨J, e, hx, f⟩ := ih (t + 1) (by omega) (uI (uI I 8 (tp + t) (byt x t)) 7 1 (nI (tp + t + 1))) (uI_same _ _ _ _) ((uI_ix (by omega)).trans ((uI_off (by omega)).trans h2)) (fun j hj => (uI_off (by omega)).trans ((uI_ix (by omega)).trans (h3 j hj))) (fun j hj => by
        rw [uI_off (by omega)]
        by_cases c : j = t
        · subst c; exact uI_same _ _ _ _
        · exact (uI_ix (by omega)).trans (h4 j (by omega)))
      exact ⟨J, e, hx, (Fi.u (Fi.u Fi.rf (Or.inl rfl)) (Or.inr ⟨rfl, rfl⟩)).tr f⟩
  obtain ⟨h1, h2, h3, h4⟩ := h
  rw [E_X11_appendBytes, B_X11_appendBytes_0]
  have e24 : nI 24 = nI (8 * 4) - nI 8 := by decide +kernel
  rw [e24]
  exact key 4 0 (by omega) I h2 h3 h4 (fun j hj => absurd hj (Nat.not_lt_zero j))
def fed5 (B : Nat → Int32) (tp : Nat) (a b c d e : Int32) : Nat → Int32 := fed (fed (fed (fed (fed B tp a) (tp + 4) b) (tp + 8) c) (tp + 12) d) (tp + 16) e
theorem c_feed (d : Nat) {S : mS} {I : mI} {L : mJ} {tp : Nat} {fp : Int32} {B : Nat → Int32} (G : Gd S) (h : XC I tp fp B) (x1 x2 x3 x4 x5 : Int32) : ∃ J, evM zcod (d + 2) 113 [.ref 7, .int x1, .int x2, .int x3, .int x4, .int x5] (S, I, L) = some (some (.int (if tp ≤ 1980 then nI (tp + 20) else -1)), (S, J, L)) ∧ (if tp ≤ 1980 then XC J (tp + 20) fp (fed5 B tp x1 x2 x3 x4 x5) else XC J tp fp B) ∧ Fi (fun a j => a = 8 ∨ a = 7 ∧ j = 1) I J := by
  rw [E_X11_feed]
  simp only [B_X11_feed_0, gTop G, if_true, h.2.1, nI_add]
  by_cases c : tp ≤ 1980
  · obtain ⟨J1, e1, h1, f1⟩ := s_append d (L := L) G h (by omega) x1
    obtain ⟨J2, e2, h2, f2⟩ := s_append d (L := L) G h1 (by omega) x2
    obtain ⟨J3, e3, h3, f3⟩ := s_append d (L := L) G h2 (by omega) x3
    obtain ⟨J4, e4, h4, f4⟩ := s_append d (L := L) G h3 (by omega) x4
    obtain ⟨J5, e5, h5, f5⟩ := s_append d (L := L) G h4 (by omega) x5
    rw [if_pos (nI_le (by omega) (by omega)), if_pos c]
    refine ⟨J5, ?_, by rw [if_pos c]; exact h5, f1.tr (f2.tr (f3.tr (f4.tr f5)))⟩
    rw [B_X11_feed_15]
    simp only [gTop G, if_true, e1, e2, e3, e4, bV_eq, B_X11_feed_36, e5, h5.2.1]
  · rw [if_neg (nI_ge (by omega) (by have := h.1; omega)), if_neg c]
    exact ⟨I, rfl, by rw [if_neg c]; exact h, Fi.rf⟩
def baOk (tp : Nat) (n : Int32) : Bool := okI n (nI 0) (nI tp)
theorem c_back (d : Nat) {S : mS} {I : mI} {L : mJ} {tp : Nat} {fp : Int32} {B : Nat → Int32} (G : Gd S) (h : XC I tp fp B) (n : Int32) : ∃ J, evM zcod (d + 2) 114 [.ref 7, .int n] (S, I, L) = some (some (.int (if baOk tp n = true then nI (tp - n.toInt.toNat) else -1)), (S, J, L)) ∧ (if baOk tp n = true then XC J (tp - n.toInt.toNat) fp B else XC J tp fp B) ∧ Fi (fun a j => a = 8 ∨ a = 7 ∧ j = 1) I J := by
  have h1 := h.1
  rw [E_X11_back]
  simp only [B_X11_back_0, gTop G, if_true, h.2.1, w_in, bI_eq]
  unfold baOk
  cases c : okI n (nI 0) (nI tp)
  · simp only [Bool.false_eq_true, if_false, not_true_eq_false]
    exact ⟨I, rfl, h, Fi.rf⟩
  · obtain ⟨k, hk, rfl⟩ := okI_n c (by omega)
    simp only [if_true, n10, not_false_eq_true, B_X11_back_14, gTop G, h.2.1, t_nI (show k < 2147483648 by omega), Int.toNat_natCast, pk_sub hk, uI_same]
    exact ⟨_, rfl, ⟨by omega, uI_same _ _ _ _, (uI_ix (by omega)).trans h.2.2.1, fun j hj => (uI_off (by omega)).trans (h.2.2.2 j (by omega))⟩, Fi.u Fi.rf (Or.inr ⟨rfl, rfl⟩)⟩
theorem c_place (d : Nat) {S : mS} {I : mI} {L : mJ} {tp : Nat} {fp : Int32} {B : Nat → Int32} (G : Gd S) (h : XC I tp fp B) : evM zcod (d + 1) 116 [.ref 7] (S, I, L) = some (some (.int fp), (S, I, L)) := by
  rw [E_X11_place]
  simp only [B_X11_place_0, gTop G, if_true, h.2.2.1]
/-- what is told -/
def teOk (w s x h y : Int32) (nt : Nat) : Bool := okI w (nI 1) (nI 9) && okI s (nI 1) (nI 9) && okI x (nI 0) (nI 19) && okI h (nI 1) (nI 9) && okI y (nI 0) (nI 19) && decide (nt < 20)
def teT (T : Nat → Nat → Int32) (nt : Nat) (w s x h y : Int32) : Nat → Nat → Int32 := fun i c => if i = nt then (match c with | 0 => w | 1 => s | 2 => x | 3 => h | _ => y) else T i c
