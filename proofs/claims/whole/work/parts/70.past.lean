/-! Past, class side: what was kept, what is held -/
def PH (I : mI) (P : mP) (H : Nat → mW) (dp : Nat) : Prop := dp ≤ 40 ∧ I 78 2 = nI dp ∧ (∀ i, i < 40 → Wd I (80 + 7 * i)) ∧ ∃ nx, nx < 40 ∧ I 78 1 = nI nx ∧ ∀ i, i < dp → RV P (H i) ∧ CS I (80 + 7 * ((nx + 39 - i) % 40)) P (H i)
def SH (I : mI) (P : mP) (Q : Nat → mW) (hd : Nat → Bool) : Prop := I 78 4 = nI (bs hd 3) ∧ (∀ s, s < 3 → Wd I (361 + 7 * s)) ∧ ∀ s, s < 3 → hd s = true → RV P (Q s) ∧ CS I (361 + 7 * s) P (Q s)
def pu (r : mW) (H : Nat → mW) : Nat → mW
  | 0 => r
  | i + 1 => H i
def paA (a j : Nat) : Prop := (80 ≤ a ∧ a < 360) ∨ a = 78 ∧ (j = 1 ∨ j = 2)
theorem Wd.cg {I J : mI} {b : Nat} (h : Wd I b) (e : ∀ x j, b ≤ x → x ≤ b + 6 → J x j = I x j) : Wd J b := by
  obtain ⟨h1, h2, h3, h4, h5, h6⟩ := h
  exact ⟨(e _ _ (by omega) (by omega)).trans h1, (e _ _ (by omega) (by omega)).trans h2, (e _ _ (by omega) (by omega)).trans h3, (e _ _ (by omega) (by omega)).trans h4, (e _ _ (by omega) (by omega)).trans h5, (e _ _ (by omega) (by omega)).trans h6⟩
theorem PH.cg {I J : mI} {P : mP} {H : Nat → mW} {dp : Nat} (h : PH I P H dp) (e : ∀ x j, 80 ≤ x → x < 360 → J x j = I x j) (e1 : J 78 1 = I 78 1) (e2 : J 78 2 = I 78 2) : PH J P H dp := by
  obtain ⟨p1, p2, p3, nx, p4, p5, p6⟩ := h
  exact ⟨p1, e2.trans p2, fun i hi => (p3 i hi).cg fun x j q1 q2 => e x j (by omega) (by omega), nx, p4, e1.trans p5, fun i hi => ⟨(p6 i hi).1, (p6 i hi).2.congI fun x j q1 q2 => e x j (by omega) (by omega)⟩⟩
theorem SH.cg {I J : mI} {P : mP} {Q : Nat → mW} {hd : Nat → Bool} (h : SH I P Q hd) (e : ∀ x j, 361 ≤ x → x < 382 → J x j = I x j) (e4 : J 78 4 = I 78 4) : SH J P Q hd := by
  obtain ⟨p1, p2, p3⟩ := h
  exact ⟨e4.trans p1, fun s hs => (p2 s hs).cg fun x j q1 q2 => e x j (by omega) (by omega), fun s hs q => ⟨(p3 s hs q).1, (p3 s hs q).2.congI fun x j q1 q2 => e x j (by omega) (by omega)⟩⟩
theorem s_keep (d : Nat) {S : mS} {I : mI} {L : mJ} {a : Nat} {P : mP} {r : mW} {H : Nat → mW} {dp : Nat} (G : Gd S) (ha : isSt a = true) (ha2 : a < 80) (hv : PV P) (h : CS I a P r) (hr : RV P r) (p : PH I P H dp) : ∃ J, evM zcod (d + 4) 107 [.ref 78, .ref a] (S, I, L) = some (none, (S, J, L)) ∧ PH J P (pu r H) (min (dp + 1) 40) ∧ Fi paA I J := by
  obtain ⟨p1, p2, p3, nx, p4, p5, p6⟩ := p
  have k79 := G.k 79 (k := 24) (n := 40) (by decide +kernel)
  have hs := isSt_done p4
  have ks := (gSt G hs).1
  obtain ⟨J, e, c, f⟩ := s_become d (L := L) G ha hs (by omega) hv h (p3 nx p4)
  have j78 : ∀ j, J 78 j = I 78 j := fun j => f 78 j (by omega)
  have fin : ∀ nx', nx' < 40 → nx' = (nx + 1) % 40 → ∃ K, evk zcod none (d + 3) zc_X4_keep 58 [(0, .ref 78)] [.int (nI nx'), .ref 78] (S, J, L) = some (none, (S, K, L)) ∧ PH K P (pu r H) (min (dp + 1) 40) ∧ Fi paA I K := by
    intro nx' q1 q2
    have m1 : (if nI 40 < nI (dp + 1) then nI 40 else nI (dp + 1)) = nI (min (dp + 1) 40) := by
      by_cases z : 40 < dp + 1
      · rw [if_pos (nI_lt z (by omega)), show min (dp + 1) 40 = 40 by omega]
      · rw [if_neg (nI_nlt (by omega) (by omega)), show min (dp + 1) 40 = dp + 1 by omega]
    have j2 : uI J 78 1 (nI nx') 78 2 = nI dp := (uI_ix (by omega)).trans ((j78 2).trans p2)
    refine ⟨uI (uI J 78 1 (nI nx')) 78 2 (nI (min (dp + 1) 40)), ?_, ⟨by omega, uI_same _ _ _ _, fun i hi => ?_, nx', q1, (uI_ix (by omega)).trans (uI_same _ _ _ _), fun i hi => ?_⟩, Fi.u (Fi.u (f.up fun x j q => Or.inl (by omega)) (Or.inr ⟨rfl, Or.inl rfl⟩)) (Or.inr ⟨rfl, Or.inr rfl⟩)⟩
    · rw [B_X4_keep_58]
      simp only [gPa G, if_true, j2, nI_add, s_min, bI_eq, m1]
    · have w : Wd J (80 + 7 * i) := by
        by_cases z : i = nx
        · subst z; exact c.wd
        · exact (p3 i hi).cg fun x j w1 w2 => f x j (by omega)
      exact w.cg fun x j w1 w2 => (uI_off (by omega)).trans (uI_off (by omega))
    · match i, hi with
      | 0, hi =>
        refine ⟨hr, ?_⟩
        rw [show (nx' + 39 - 0) % 40 = nx by omega]
        exact c.congI fun x j w1 w2 => (uI_off (by omega)).trans (uI_off (by omega))
      | i + 1, hi =>
        have q := p6 i (by omega)
        refine ⟨q.1, ?_⟩
        rw [show (nx' + 39 - (i + 1)) % 40 = (nx + 39 - i) % 40 by omega]
        exact q.2.congI fun x j w1 w2 => (uI_off (by omega)).trans ((uI_off (by omega)).trans (f x j (by omega)))
  rw [E_X4_keep]
  simp only [B_X4_keep_0, gPa G, k79, if_true, p5]
  rw [if_neg (n_pos (n := nx) (by omega)), if_pos (nI_lt p4 (by omega))]
  simp only [B_X4_keep_20, gPa G, k79, if_true, p5, true_and]
  rw [if_pos ((zin_nI (by omega)).mpr p4), zix_nI (by omega), gDone G p4]
  simp only [ks, if_true, e, bV_eq, gPa G, k79, j78, p5, nI_add]
  by_cases z : 40 ≤ nx + 1
  · rw [if_pos (nI_le z (by omega)), B_X4_keep_57]
    exact fin 0 (by omega) (by omega)
  · rw [if_neg (nI_ge (by omega) (by omega))]
    exact fin (nx + 1) (by omega) (by omega)
theorem s_undoInto (d : Nat) {S : mS} {I : mI} {L : mJ} {P : mP} {H : Nat → mW} {dp : Nat} (G : Gd S) (hv : PV P) (hw : Wd I 39) (p : PH I P H dp) : ∃ J, evM zcod (d + 4) 108 [.ref 78, .ref 39] (S, I, L) = some (some (.int (if dp = 0 then nI 0 else nI 1)), (S, J, L)) ∧ (dp = 0 → J = I) ∧ (¬ dp = 0 → CS J 39 P (H 0) ∧ PH J P (fun i => H (i + 1)) (dp - 1)) ∧ Fi (fun a j => (39 ≤ a ∧ a ≤ 45) ∨ a = 78 ∧ (j = 1 ∨ j = 2)) I J := by
  obtain ⟨p1, p2, p3, nx, p4, p5, p6⟩ := p
  have k79 := G.k 79 (k := 24) (n := 40) (by decide +kernel)
  have fin : ∀ n1, n1 = (nx + 39) % 40 → ∃ J, evk zcod none (d + 3) zc_X4_undoInto 23 [(0, .ref 78), (1, .ref 39)] [.int (nI n1)] (S, I, L) = some (some (.int (if dp = 0 then nI 0 else nI 1)), (S, J, L)) ∧ (dp = 0 → J = I) ∧ (¬ dp = 0 → CS J 39 P (H 0) ∧ PH J P (fun i => H (i + 1)) (dp - 1)) ∧ Fi (fun a j => (39 ≤ a ∧ a ≤ 45) ∨ a = 78 ∧ (j = 1 ∨ j = 2)) I J := by
    intro n1 q
    have n40 : n1 < 40 := by omega
    rw [B_X4_undoInto_23]
    simp only [gPa G, k79, if_true, p2]
    by_cases z : dp = 0
    · rw [if_pos (by rw [z]), if_pos z, B_X4_undoInto_40]
      exact ⟨I, rfl, fun _ => rfl, fun w => absurd z w, Fi.rf⟩
    · rw [if_neg (fun w => z ((nI_eq (by omega) (by omega)).mp w)), if_pos (nI_lt n40 (by omega)), if_neg z]
      have hs := isSt_done n40
      have q0 := p6 0 (by omega)
      rw [show (nx + 39 - 0) % 40 = n1 by omega] at q0
      have j2 : uI I 78 1 (nI n1) 78 2 = nI dp := (uI_ix (by omega)).trans p2
      let J0 := uI (uI I 78 1 (nI n1)) 78 2 (nI (dp - 1))
      have f0 : Fi (fun a j => a = 78 ∧ (j = 1 ∨ j = 2)) I J0 := Fi.u (Fi.u Fi.rf ⟨rfl, Or.inl rfl⟩) ⟨rfl, Or.inr rfl⟩
      have c0 : CS J0 (80 + 7 * n1) P (H 0) := q0.2.congI fun x j w1 w2 => f0 x j (by omega)
      obtain ⟨J, e, c, f⟩ := s_become d (L := L) G hs is39 (by omega) hv c0 (hw.cg fun x j w1 w2 => f0 x j (by omega))
      refine ⟨J, ?_, fun w => absurd w z, fun _ => ⟨c, by omega, (f 78 2 (by omega)).trans (uI_same _ _ _ _), fun i hi => (p3 i hi).cg fun x j w1 w2 => (f x j (by omega)).trans (f0 x j (by omega)), n1, n40, (f 78 1 (by omega)).trans ((uI_ix (by omega)).trans (uI_same _ _ _ _)), fun i hi => ?_⟩, (f0.up fun a j w => Or.inr w).tr (f.up fun a j w => Or.inl (by omega))⟩
      · rw [B_X4_undoInto_42]
        simp only [gPa G, k79, gSt G is39, if_true, true_and, gDone G n40, zix_nI (show n1 < 2 ^ 31 by omega)]
        rw [if_pos ((zin_nI (by omega)).mpr n40), j2, pk_sub (by omega)]
        have e' : evM zcod (d + 3) 21 [.ref 39, .ref (80 + 7 * n1)] (S, uI (uI I 78 1 (nI n1)) 78 2 (nI (dp - 1)), L) = some (none, (S, J, L)) := e
        rw [e', bV_eq, if_pos rfl]
      · have q1 := p6 (i + 1) (by omega)
        refine ⟨q1.1, ?_⟩
        rw [show (n1 + 39 - i) % 40 = (nx + 39 - (i + 1)) % 40 by omega]
        exact q1.2.congI fun x j w1 w2 => (f x j (by omega)).trans (f0 x j (by omega))
  rw [E_X4_undoInto]
  simp only [B_X4_undoInto_0, B_X4_undoInto_16, gPa G, k79, if_true, p5]
  by_cases z : nx = 0
  · rw [if_pos (by rw [z]; exact nI_le (Nat.le_refl 0) (by omega)), pk_sub (by omega)]
    exact fin 39 (by omega)
  · rw [if_neg (nI_ge (by omega) (by omega)), pk_sub (by omega)]
    exact fin (nx - 1) (by omega)
theorem hd_or {hd : Nat → Bool} {s : Nat} (hs : s < 3) : nI (bs hd 3) ||| (nI 1 <<< (nI s &&& nI 31)) = nI (bs (fun k => decide (k = s) || hd k) 3) := by
  have e : ∀ g : Nat → Bool, bs g 3 = (if g 0 = true then 1 else 0) + (if g 1 = true then 2 else 0) + (if g 2 = true then 4 else 0) := fun g => by
    cases h0 : g 0 <;> cases h1 : g 1 <;> cases h2 : g 2 <;> simp [bs, h0, h1, h2]
  rw [e, e]
  match s, hs with
  | 0, _ => cases hd 0 <;> cases hd 1 <;> cases hd 2 <;> decide +kernel
  | 1, _ => cases hd 0 <;> cases hd 1 <;> cases hd 2 <;> decide +kernel
  | 2, _ => cases hd 0 <;> cases hd 1 <;> cases hd 2 <;> decide +kernel
theorem s_isSlot (d : Nat) {S : mS} {I : mI} {L : mJ} (G : Gd S) (s : Int32) : evM zcod (d + 1) 109 [.ref 78, .int s] (S, I, L) = some (some (.int (if inN s 3 = true then nI 1 else nI 0)), (S, I, L)) := by
  rw [E_X4_isSlot]
  simp only [B_X4_isSlot_0, B_X4_isSlot_17, B_X4_isSlot_18, gPa G, if_true, b0, b1]
  by_cases c : inN s 3 = true
  · obtain ⟨k, hk, rfl⟩ := inN_of c
    rw [if_pos c, if_neg (n_pos (n := k) (by omega)), if_neg (nI_ge hk (by omega))]
  · rw [if_neg c]
    rcases inN_not c (by omega) with q | q
    · rw [if_pos q]
    · rw [if_pos q, ite_self]
def hdS (hd : Nat → Bool) (s : Nat) : Nat → Bool := fun k => decide (k = s) || hd k
def Qp (Q : Nat → mW) (s : Nat) (r : mW) : Nat → mW := fun k => if k = s then r else Q k
theorem s_holdIn (d : Nat) {S : mS} {I : mI} {L : mJ} {P : mP} {r : mW} {Q : Nat → mW} {hd : Nat → Bool} (G : Gd S) (hv : PV P) (h : CS I 39 P r) (hr : RV P r) (p : SH I P Q hd) (s : Int32) : ∃ J, evM zcod (d + 4) 110 [.ref 78, .int s, .ref 39] (S, I, L) = some (some (.int (if inN s 3 = true then nI 1 else nI 0)), (S, J, L)) ∧ (¬ inN s 3 = true → J = I) ∧ (∀ k, k < 3 → s = nI k → SH J P (Qp Q k r) (hdS hd k)) ∧ Fi (fun a j => (361 ≤ a ∧ a < 382) ∨ a = 78 ∧ j = 4) I J := by
  obtain ⟨p1, p2, p3⟩ := p
  rw [E_X4_holdIn]
  simp only [B_X4_holdIn_0, gPa G, if_true, s_isSlot _ G, bI_eq]
  by_cases c : inN s 3 = true
  · obtain ⟨k, hk, rfl⟩ := inN_of c
    have hs := isSt_slot hk
    have ks := (gSt G hs).1
    obtain ⟨J, e, c2, f⟩ := s_become d (L := L) G is39 hs (by omega) hv h (p2 k hk)
    have j4 : J 78 4 = nI (bs hd 3) := (f 78 4 (by omega)).trans p1
    rw [if_pos c, if_pos (by rw [n10]; exact fun q => q), B_X4_holdIn_10]
    simp only [gPa G, if_true, true_and]
    rw [if_pos ((zin_nI (by omega)).mpr hk), zix_nI (by omega), gSlot G hk]
    simp only [ks, if_true, e, bV_eq, gPa G, j4, hd_or hk]
    refine ⟨_, rfl, fun w => absurd c w, fun k' hk' ek => ?_, Fi.u (f.up fun a j w => Or.inl (by omega)) (Or.inr ⟨rfl, rfl⟩)⟩
    have : k = k' := (nI_eq (by omega) (by omega)).mp ek
    subst this
    refine ⟨uI_same _ _ _ _, fun s hs => ?_, fun s hs q => ?_⟩
    · have w : Wd J (361 + 7 * s) := by
        by_cases z : s = k
        · subst z; exact c2.wd
        · exact (p2 s hs).cg fun x j w1 w2 => f x j (by omega)
      exact w.cg fun x j w1 w2 => uI_off (by omega)
    · unfold Qp
      by_cases z : s = k
      · subst z
        rw [if_pos rfl]
        exact ⟨hr, c2.congI fun x j w1 w2 => uI_off (by omega)⟩
      · rw [if_neg z]
        have q' : hd s = true := by
          unfold hdS at q
          rw [decide_eq_false z] at q
          simpa using q
        exact ⟨(p3 s hs q').1, (p3 s hs q').2.congI fun x j w1 w2 => (uI_off (by omega)).trans (f x j (by omega))⟩
  · rw [if_neg c, if_neg (fun q => q rfl)]
    exact ⟨I, rfl, fun _ => rfl, fun k hk ek => absurd (by rw [ek, inN_nI (by omega)]; exact decide_eq_true hk) c, Fi.rf⟩
theorem s_restoreFrom (d : Nat) {S : mS} {I : mI} {L : mJ} {P : mP} {Q : Nat → mW} {hd : Nat → Bool} (G : Gd S) (hv : PV P) (hw : Wd I 39) (p : SH I P Q hd) (s : Int32) : ∃ J, evM zcod (d + 4) 111 [.ref 78, .int s, .ref 39] (S, I, L) = some (some (.int (if (inN s 3 && hd s.toInt.toNat) = true then nI 1 else nI 0)), (S, J, L)) ∧ (¬ (inN s 3 && hd s.toInt.toNat) = true → J = I) ∧ ((inN s 3 && hd s.toInt.toNat) = true → CS J 39 P (Q s.toInt.toNat) ∧ J 78 2 = nI 0) ∧ Fi (fun a j => (39 ≤ a ∧ a ≤ 45) ∨ a = 78 ∧ j = 2) I J := by
  obtain ⟨p1, p2, p3⟩ := p
  rw [E_X4_restoreFrom]
  simp only [B_X4_restoreFrom_0, gPa G, if_true, s_isSlot _ G, bI_eq, B_X4_restoreFrom_19, p1]
  by_cases c : inN s 3 = true
  · obtain ⟨k, hk, rfl⟩ := inN_of c
    rw [t_nI (by omega), Int.toNat_natCast, if_pos c, if_neg (by rw [n10]; exact fun q => q), c, Bool.true_and, bs_shr (by omega) hk]
    by_cases c2 : hd k = true
    · have hs := isSt_slot hk
      obtain ⟨J, e, c3, f⟩ := s_become d (L := L) G hs is39 (by omega) hv (p3 k hk c2).2 hw
      rw [if_pos c2, if_pos (by rw [n10]; exact fun q => q), B_X4_restoreFrom_21]
      simp only [gPa G, gSt G is39, if_true, true_and]
      rw [if_pos ((zin_nI (by omega)).mpr hk), zix_nI (by omega), gSlot G hk]
      simp only [if_true, e, bV_eq, gPa G]
      exact ⟨_, rfl, fun w => absurd c2 w, fun _ => ⟨c3.congI fun x j w1 w2 => uI_off (by omega), uI_same _ _ _ _⟩, Fi.u (f.up fun a j w => Or.inl (by omega)) (Or.inr ⟨rfl, rfl⟩)⟩
    · rw [if_neg c2, if_neg (fun q => q rfl)]
      exact ⟨I, rfl, fun _ => rfl, fun w => absurd w c2, Fi.rf⟩
  · have c' : inN s 3 = false := by simpa using c
    rw [if_neg c, if_pos rfl, c', Bool.false_and, if_neg (by decide)]
    exact ⟨I, rfl, fun _ => rfl, (fun w => by cases w), Fi.rf⟩
theorem s_depth (d : Nat) {S : mS} {I : mI} {L : mJ} (G : Gd S) : evM zcod (d + 1) 105 [.ref 78] (S, I, L) = some (some (.int (I 78 2)), (S, I, L)) := by
  rw [E_X4_depth]
  simp only [B_X4_depth_0, gPa G, if_true]
theorem s_held (d : Nat) {S : mS} {I : mI} {L : mJ} {P : mP} {Q : Nat → mW} {hd : Nat → Bool} (G : Gd S) (p : SH I P Q hd) : evM zcod (d + 2) 106 [.ref 78] (S, I, L) = some (some (.int (nI (cn hd 3))), (S, I, L)) := by
  rw [E_X4_held]
  simp only [B_X4_held_0, gPa G, if_true, p.1, s_bitCount d (bs_128 hd (show 3 ≤ 7 by omega)), bI_eq, pc_cn (show 3 ≤ 7 by omega)]
theorem s_forgetAll (d : Nat) {S : mS} {I : mI} {L : mJ} (G : Gd S) : evM zcod (d + 1) 104 [.ref 78] (S, I, L) = some (none, (S, uI (uI I 78 2 (nI 0)) 78 4 (nI 0), L)) := by
  rw [E_X4_clear]
  simp only [B_X4_clear_0, gPa G, if_true]
