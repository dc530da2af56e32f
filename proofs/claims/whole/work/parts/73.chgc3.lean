/-! patch, hours, undo, hold, restore: class side -/
def paV (P : mP) (r : mW) (k w : Int32) : Int32 := r (40 + k.toInt.toNat) + (if w = nI 0 then -1 else nI 1)
def paOk (P : mP) (r : mW) (k w : Int32) : Bool := ftS P r k && okI (paV P r k w) (-3) (nI 3)
theorem okI_33 {x : Int32} (h : okI x (-3) (nI 3) = true) : -3 ≤ x.toInt ∧ x.toInt ≤ 3 := by
  unfold okI at h
  have h := of_decide_eq_true h
  rw [i_le, i_le, t_nI (by omega), show ((-3 : Int32)).toInt = -3 from by decide +kernel] at h
  omega
theorem c_patch (d : Nat) {S : mS} {I : mI} {L : mJ} {P : mP} {r : mW} {H : Nat → mW} {dp : Nat} {Q : Nat → mW} {hd : Nat → Bool} {T : Nat → Nat → Int32} {nt : Nat} (G : Gd S) (z : ZC S I P r H dp Q hd T nt) (k w : Int32) : ∃ J, evM zcod (d + 6) 124 [.ref 7, .int k, .int w] (S, I, L) = some (some (.int (if paOk P r k w = true then nI 1 else nI 0)), (S, J, L)) ∧ (if paOk P r k w = true then ZC S J P (ur r (40 + k.toInt.toNat) (paV P r k w)) (pu r H) (min (dp + 1) 40) Q hd T nt else ZC S J P r H dp Q hd T nt) ∧ Fi chA I J := by
  have z' := z
  obtain ⟨hv, hr, h, hp, -⟩ := z'
  have v2 := hv.2.1
  rw [E_X11_patch]
  simp only [B_X11_patch_0, g7 G, gSt G is39, if_true, s_silkAtFoot _ G is39 hv h.1, bI_eq]
  unfold paOk
  cases c1 : ftS P r k
  · simp only [Bool.false_eq_true, if_false, not_true_eq_false, Bool.false_and]
    exact ⟨I, rfl, z, Fi.rf⟩
  · have c1' := c1
    unfold ftS at c1'
    obtain ⟨b, hb, rfl⟩ := inN_of (Bool.and_eq_true_iff.mp c1').1
    simp only [if_true, n10, not_false_eq_true, B_X11_patch_13, g7 G, gSt G is39, Bool.true_and]
    rw [s_atN _ (h.1.ts G is39 hv) hb (show 3 < 4 by omega)]
    simp only [bI_eq, if_true, (h.1.si hb).2.2.2]
    have ev : (if w = nI 0 then evk zcod none (d + 5) zc_X11_patch 33 [(0, .ref 7), (1, .int (nI b))] [.int (r (40 + b))] (S, I, L) else evk zcod none (d + 5) zc_X11_patch 34 [(0, .ref 7), (1, .int (nI b))] [.int (nI 1), .int (r (40 + b))] (S, I, L)) = evk zcod none (d + 5) zc_X11_patch 34 [(0, .ref 7), (1, .int (nI b))] [.int (if w = nI 0 then -1 else nI 1), .int (r (40 + b))] (S, I, L) := by
      split
      · rw [B_X11_patch_33]
      · rfl
    have eV : r (40 + b) + (if w = nI 0 then -1 else nI 1) = paV P r (nI b) w := by
      unfold paV
      rw [t_nI (by omega), Int.toNat_natCast]
    rw [ev, B_X11_patch_34, eV]
    simp only [w_in, bI_eq, if_true]
    cases c2 : okI (paV P r (nI b) w) (-3) (nI 3)
    · simp only [Bool.false_eq_true, if_false, not_true_eq_false]
      exact ⟨I, rfl, z, Fi.rf⟩
    · simp only [if_true, n10, not_false_eq_true]
      obtain ⟨J1, e1, p1, f1⟩ := s_keep (d + 1) (L := L) G is39 (by omega) hv h.1 hr hp
      have c1' : CS J1 39 P r := h.1.congI fun x j q1 q2 => f1 x j (by unfold paA; omega)
      have c5 := c1'.s3 hv hb (paV P r (nI b) w)
      have f5 : Fi chA I (uI J1 43 (b * 4 + 3) (paV P r (nI b) w)) := Fi.u (A := chA) (f1.up fun x j q => Or.inr (Or.inr q)) (Or.inl (by omega))
      refine ⟨uI J1 43 (b * 4 + 3) (paV P r (nI b) w), ?_, ?_, f5⟩
      · rw [B_X11_patch_48]
        simp only [g7 G, gSt G is39, if_true, e1, bV_eq]
        rw [s_putN _ (c1'.ts G is39 hv) hb (show 3 < 4 by omega)]
        simp only [bV_eq, if_true]
      · rw [t_nI (show b < 2147483648 by omega), Int.toNat_natCast]
        exact z.ch (hr.patch hv hb (okI_33 c2)) c5 (p1.cg (fun x j q1 q2 => uI_off (by omega)) (uI_off (by omega)) (uI_off (by omega))) f5
def hoOk (n : Int32) : Bool := okI n (nI 0) (nI 72)
def hoR (P : mP) (r : mW) (n : Int32) : mW := goesS P (sta P 2) n.toInt.toNat r
theorem c_hours (d : Nat) {S : mS} {I : mI} {L : mJ} {P : mP} {r : mW} {H : Nat → mW} {dp : Nat} {Q : Nat → mW} {hd : Nat → Bool} {T : Nat → Nat → Int32} {nt : Nat} (G : Gd S) (z : ZC S I P r H dp Q hd T nt) (n : Int32) : ∃ J, evM zcod (d + 7) 125 [.ref 7, .int n] (S, I, L) = some (some (.int (if hoOk n = true then hoR P r n 55 else -1)), (S, J, L)) ∧ (if (hoOk n && !decide (n = nI 0)) = true then ZC S J P (hoR P r n) (pu r H) (min (dp + 1) 40) Q hd T nt else ZC S J P r H dp Q hd T nt) ∧ Fi chA I J := by
  have z' := z
  obtain ⟨hv, hr, h, hp, -⟩ := z'
  rw [E_X11_hours]
  simp only [B_X11_hours_0, w_in, bI_eq, if_true]
  unfold hoOk
  cases c1 : okI n (nI 0) (nI 72)
  · simp only [Bool.false_eq_true, if_false, not_true_eq_false, Bool.false_and]
    exact ⟨I, rfl, z, Fi.rf⟩
  · obtain ⟨m, hm, rfl⟩ := okI_n c1 (by omega)
    simp only [if_true, n10, not_false_eq_true, Bool.true_and, B_X11_hours_12, B_X11_hours_46, g7 G, gSt G is39]
    unfold hoR
    rw [t_nI (by omega), Int.toNat_natCast]
    by_cases c2 : m = 0
    · subst c2
      rw [if_pos (nI_le (Nat.le_refl 0) (by omega))]
      exact ⟨I, by rw [h.1.ti.1]; rfl, z, Fi.rf⟩
    · rw [if_neg (nI_ge (by omega) (by omega)), decide_eq_false (fun q => c2 ((nI_eq (by omega) (by omega)).mp q))]
      obtain ⟨J1, e1, p1, f1⟩ := s_keep (d + 2) (L := L) G is39 (by omega) hv h.1 hr hp
      have c1' : CS J1 39 P r := h.1.congI fun x j q1 q2 => f1 x j (by unfold paA; omega)
      have hJ1 : CC S J1 P r := h.ch c1' (f1.up fun x j q => Or.inr (Or.inr q))
      obtain ⟨J2, e2, c2', f2⟩ := s_pass d (L := L) G is39 (by omega) hv (sta P 2) (n := m) (by omega) hr hJ1.pc c1'
      have f5 : Fi chA I J2 := (f1.up fun x j q => Or.inr (Or.inr q)).tr (f2.up fun x j q => by unfold airA at q; unfold jk paA; omega)
      refine ⟨J2, ?_, z.ch (goes_RV hv m hr) c2' (p1.cg (fun x j q1 q2 => f2 x j (by unfold airA; omega)) (f2 _ _ (by unfold airA; omega)) (f2 _ _ (by unfold airA; omega))) f5, f5⟩
      simp only [e1, bV_eq, if_true, g7 G, hJ1.2.2.2.2.1, e2, c2'.ti, B_X11_hours_46, gSt G is39]
theorem c_undo (d : Nat) {S : mS} {I : mI} {L : mJ} {P : mP} {r : mW} {H : Nat → mW} {dp : Nat} {Q : Nat → mW} {hd : Nat → Bool} {T : Nat → Nat → Int32} {nt : Nat} (G : Gd S) (z : ZC S I P r H dp Q hd T nt) : ∃ J, evM zcod (d + 5) 126 [.ref 7] (S, I, L) = some (some (.int (if dp = 0 then nI 0 else nI 1)), (S, J, L)) ∧ (if dp = 0 then ZC S J P r H dp Q hd T nt else ZC S J P (H 0) (fun i => H (i + 1)) (dp - 1) Q hd T nt) ∧ Fi chA I J := by
  have z' := z
  obtain ⟨hv, hr, h, hp, -⟩ := z'
  obtain ⟨J, e, q1, q2, f⟩ := s_undoInto d (L := L) G hv h.1.wd hp
  have f5 : Fi chA I J := f.up fun x j q => by unfold chA paA; omega
  refine ⟨J, ?_, ?_, f5⟩
  · rw [E_X11_undo]
    simp only [B_X11_undo_0, g7 G, gSt G is39, if_true, e, bI_eq]
    split
    · rw [if_pos (Or.inl rfl)]
    · rw [if_pos (Or.inr rfl)]
  · by_cases c : dp = 0
    · rw [if_pos c, q1 c]
      exact z
    · rw [if_neg c]
      obtain ⟨-, -, -, nx, -, -, p6⟩ := hp
      exact z.ch (p6 0 (by omega)).1 (q2 c).1 (q2 c).2 f5
theorem c_hold (d : Nat) {S : mS} {I : mI} {L : mJ} {P : mP} {r : mW} {H : Nat → mW} {dp : Nat} {Q : Nat → mW} {hd : Nat → Bool} {T : Nat → Nat → Int32} {nt : Nat} (G : Gd S) (z : ZC S I P r H dp Q hd T nt) (s : Int32) : ∃ J, evM zcod (d + 5) 142 [.ref 7, .int s] (S, I, L) = some (some (.int (if inN s 3 = true then nI 1 else nI 0)), (S, J, L)) ∧ (if inN s 3 = true then ZC S J P r H dp (Qp Q s.toInt.toNat r) (hdS hd s.toInt.toNat) T nt else ZC S J P r H dp Q hd T nt) ∧ Fi (fun a j => (361 ≤ a ∧ a < 382) ∨ a = 78 ∧ j = 4) I J := by
  have z' := z
  obtain ⟨hv, hr, h, hp, hs, ht, hT⟩ := z'
  obtain ⟨J, e, q1, q2, f⟩ := s_holdIn d (L := L) G hv h.1 hr hs s
  refine ⟨J, ?_, ?_, f⟩
  · rw [E_X11_hold]
    simp only [B_X11_hold_0, g7 G, gSt G is39, if_true, e, bI_eq]
    split
    · rw [if_pos (Or.inr rfl)]
    · rw [if_pos (Or.inl rfl)]
  · by_cases c : inN s 3 = true
    · obtain ⟨k, hk, rfl⟩ := inN_of c
      rw [if_pos c, t_nI (by omega), Int.toNat_natCast]
      have c1 : CS J 39 P r := h.1.congI fun x j w1 w2 => f x j (by omega)
      have e : ∀ x j, x < 78 → J x j = I x j := fun x j w => f x j (by omega)
      have e0 : ∀ x, x < 78 → J x = I x := fun x w => f.row x fun j => by omega
      obtain ⟨h1, h2, h3, h4, h5, h6⟩ := h
      exact ⟨hv, hr, ⟨c1, h2.fi (e0 17 (by omega)) (e0 18 (by omega)) (e0 19 (by omega)), (e _ _ (by omega)).trans h3, (e _ _ (by omega)).trans h4, (e _ _ (by omega)).trans h5, h6.cg fun x j w1 w2 => e x j (by omega)⟩, hp.cg (fun x j w1 w2 => f x j (by omega)) (f _ _ (by omega)) (f _ _ (by omega)), q2 k hk rfl, ht, hT.cg (fun j => f _ _ (by omega)) (fun j => f _ _ (by omega))⟩
    · rw [if_neg c, q1 c]
      exact z
def reOk (hd : Nat → Bool) (s : Int32) : Bool := inN s 3 && hd s.toInt.toNat
theorem c_restore (d : Nat) {S : mS} {I : mI} {L : mJ} {P : mP} {r : mW} {H : Nat → mW} {dp : Nat} {Q : Nat → mW} {hd : Nat → Bool} {T : Nat → Nat → Int32} {nt : Nat} (G : Gd S) (z : ZC S I P r H dp Q hd T nt) (s : Int32) : ∃ J, evM zcod (d + 5) 143 [.ref 7, .int s] (S, I, L) = some (some (.int (if reOk hd s = true then nI 1 else nI 0)), (S, J, L)) ∧ (if reOk hd s = true then ZC S J P (Q s.toInt.toNat) H 0 Q hd T nt else ZC S J P r H dp Q hd T nt) ∧ Fi chA I J := by
  have z' := z
  obtain ⟨hv, hr, h, hp, hs, ht, hT⟩ := z'
  obtain ⟨J, e, q1, q2, f⟩ := s_restoreFrom d (L := L) G hv h.1.wd hs s
  have f5 : Fi chA I J := f.up fun x j q => by unfold chA paA; omega
  unfold reOk
  refine ⟨J, ?_, ?_, f5⟩
  · rw [E_X11_restore]
    simp only [B_X11_restore_0, g7 G, gSt G is39, if_true, e, bI_eq]
    split
    · rw [if_pos (Or.inr rfl)]
    · rw [if_pos (Or.inl rfl)]
  · by_cases c : (inN s 3 && hd s.toInt.toNat) = true
    · rw [if_pos c]
      obtain ⟨c1, c2⟩ := Bool.and_eq_true_iff.mp c
      obtain ⟨k, hk, rfl⟩ := inN_of c1
      rw [t_nI (by omega), Int.toNat_natCast] at *
      obtain ⟨p1, p2, p3, nx, p4, p5, p6⟩ := hp
      exact z.ch (hs.2.2 k hk c2).1 (q2 c).1 ⟨by omega, (q2 c).2, fun i hi => (p3 i hi).cg fun x j w1 w2 => f x j (by omega), nx, p4, (f _ _ (by omega)).trans p5, fun i hi => absurd hi (Nat.not_lt_zero i)⟩ f5
    · rw [if_neg c, q1 c]
      exact z
