/-! an hour, hours -/
theorem n10f : ¬ nI 1 = nI 0 := by decide +kernel
theorem n01f : ¬ nI 0 = nI 1 := by decide +kernel
theorem drX_n {P : mP} {h u st : Int32} {g : Bool} {i k j : Nat} {r : mW} (h1 : j ≠ i) (h2 : j ≠ 14 + i) : drX P h u st g i k r j = r j := (ur_n h1).trans (ur_n h2)
theorem drf_n {P : mP} {r : mW} {g : Bool} {j : Nat} : ∀ {n : Nat}, (∀ i, i < n → j ≠ i ∧ j ≠ 14 + i) → drf P r g n j = r j
  | 0, _ => rfl
  | n + 1, h => by
    unfold drf
    split
    · rw [drX_n (h n (by omega)).1 (h n (by omega)).2]
      exact drf_n fun i hi => h i (by omega)
    · exact drf_n fun i hi => h i (by omega)
theorem drf_RV {P : mP} {r : mW} {g : Bool} (hr : RV P r) (hv : PV P) : ∀ {n : Nat}, n ≤ nLo P → RV P (drf P r g n)
  | 0, _ => hr
  | n + 1, h => by
    have v := hv.1
    unfold drf
    split
    · rename_i c
      exact (drf_RV hr hv (n := n) (by omega)).drX hv (by omega) (by rw [drf_n (fun i hi => by omega)]; exact c) _ _ (hld_19 _)
    · exact drf_RV hr hv (by omega)
/-- beyond the loads done nothing but the flight has changed -/
theorem stepC_n {P : mP} {r0 : mW} {a j : Nat} {q : mW × (Nat → Int32)} (hq : RV P q.1) (hv : PV P) (ha : a < nLo P) (e7 : q.1 (7 + a) = r0 (7 + a)) (hj : j < 35) (n1 : j ≠ 7 + a) (n2 : j ≠ 14 + a) (n3 : j ≠ 21 + a) (n4 : j ≠ 28 + a) : (stepC P r0 a q).1 j = q.1 j := by
  have v := hv.1
  have v2 := hv.2.1
  unfold stepC
  split
  · rename_i c
    rw [← e7] at c
    obtain ⟨k, hk, e21, e35⟩ := (hq.1 a ha).2.2.1 c
    have dn : ∀ how, downR q.1 a how j = q.1 j := fun how => by
      unfold downR
      rw [kS_of e21 (by omega), ur_n (by omega), ur_n (by omega), ur_n (by omega), ur_n (by omega)]
    split
    · split
      · exact dn _
      · show ur (ur _ _ _) 56 _ j = _
        rw [ur_n (by omega), ur_n (by omega)]
        exact dn _
    · split
      · exact dn _
      · rfl
  · rfl
theorem stepC_RV {P : mP} {r0 : mW} {a : Nat} {q : mW × (Nat → Int32)} (hq : RV P q.1) (hv : PV P) (ha : a < nLo P) (e7 : q.1 (7 + a) = r0 (7 + a)) : RV P (stepC P r0 a q).1 := by
  have v2 := hv.2.1
  have v1 := hv.1
  unfold stepC
  split
  · rename_i c
    rw [← e7] at c
    split
    · split
      · exact hq.down hv ha c (Or.inr (Or.inl rfl))
      · rename_i nn
        rcases nh_neg (P := P) (r := q.1) (x := q.1 a) (fr := freeC P q.2) with ⟨n1, n2⟩ | ⟨g, hg, n2⟩
        · exact absurd n1 nn
        · show RV P (ur (ur (downR q.1 a (nI 2)) (28 + a) (nhA P q.1 (q.1 a) (freeC P q.2))) 56 _)
          rw [n2]
          obtain ⟨k, hk, e21, e35⟩ := (hq.1 a ha).2.2.1 c
          refine ((hq.down hv ha c (Or.inr (Or.inr rfl))).hook hv ha hg ?_).un hv (by omega) _
          unfold downR
          rw [ur_n (by omega), ur_n (by omega), ur_s]
    · split
      · exact hq.down hv ha c (Or.inl rfl)
      · exact hq
  · exact hq
theorem foldC_ok {P : mP} {r : mW} {g : Bool} (hr : RV P r) (hv : PV P) : ∀ {n : Nat}, n ≤ nLo P → RV P (foldC P r g n).1 ∧ (∀ j, n ≤ j → j < nLo P → (foldC P r g n).1 (7 + j) = r (7 + j))
  | 0, _ => ⟨drf_RV hr hv (Nat.le_refl _), fun j _ hj => drf_n fun i hi => by have := hv.1; omega⟩
  | n + 1, h => by
    obtain ⟨h1, h2⟩ := foldC_ok (g := g) hr hv (n := n) (by omega)
    have v := hv.1
    refine ⟨stepC_RV h1 hv (by omega) (h2 n (by omega) (by omega)), fun j hj hj2 => ?_⟩
    show (stepC P r n (foldC P r g n)).1 (7 + j) = _
    rw [stepC_n h1 hv (by omega) (h2 n (by omega) (by omega)) (by omega) (by omega) (by omega) (by omega) (by omega)]
    exact h2 j (by omega) hj2
theorem hour_RV {P : mP} {r : mW} {sd : Int32} (hr : RV P r) (hv : PV P) : RV P (hourS P sd r) := (foldC_ok hr hv (Nat.le_refl _)).1.un hv (by omega) _
theorem goes_RV {P : mP} {sd : Int32} (hv : PV P) : ∀ (n : Nat) {r : mW}, RV P r → RV P (goesS P sd n r)
  | 0, _, h => h
  | n + 1, _, h => goes_RV hv n (hour_RV h hv)
def airA (a x j : Nat) : Prop := a ≤ x ∧ x ≤ a + 6 ∨ x = 54 ∨ x = 55 ∨ x = 57
theorem PC.air {S : mS} {I J : mI} {P : mP} {a : Nat} (h : PC S I P) (ha : isSt a = true) (ha2 : a + 6 < 54) (f : Fi (airA a) I J) : PC S J P := h.fi fun x w => funext fun j => f x j (by
  have := isSt_small ha ha2
  unfold airA
  omega)
theorem s_passOne (d : Nat) {S : mS} {I : mI} {L : mJ} {a : Nat} {P : mP} {r : mW} (G : Gd S) (ha : isSt a = true) (ha2 : a + 6 < 54) (hv : PV P) (hr : RV P r) (hp : PC S I P) (hc : CS I a P r) (g : Bool) : ∃ J, evM zcod (d + 5) 83 [.ref 56, .ref a, .int (if g = true then nI 1 else nI 0)] (S, I, L) = some (none, (S, J, L)) ∧ CS J a P (ur (foldC P r g (nLo P)).1 55 ((foldC P r g (nLo P)).1 55 + nI 1)) ∧ Fi (airA a) I J := by
  have g0 := gSt G ha
  have v := hv
  obtain ⟨v1, v2, v3, v4⟩ := v
  have bit : ∀ i, i < nLo P → (nI (soB P r (nI 1)) >>> (nI i &&& nI 31)) &&& nI 1 = if r (7 + i) = nI 1 then nI 1 else nI 0 := fun i hi => by
    unfold soB
    rw [bs_shr (by omega) hi]
    unfold isS
    simp only [decide_eq_true_eq]
  -- the third loop
  have k3 : ∀ k i, i + k = nLo P → ∀ I : mI, PC S I P → CS I a P (foldC P r g i).1 → (∀ j, j < 5 → I 57 j = (foldC P r g i).2 j) → Begun I (r 55) (upS P r) (stS P r) → ∃ J, evk zcod none (d + 4) zc_X0_passOne 93 [(0, .ref 56), (1, .ref a), (3, .int (nI (soB P r (nI 1)))), (4, .int (nI i))] [] (S, I, L) = some (none, (S, J, L)) ∧ CS J a P (ur (foldC P r g (nLo P)).1 55 ((foldC P r g (nLo P)).1 55 + nI 1)) ∧ Fi (airA a) I J := by
    intro k
    induction k with
    | zero =>
      intro i hi I hp hc h57 B
      rw [show i = nLo P by omega] at hc ⊢
      have Tl := hc.tl G ha hv
      refine ⟨uI I a 3 ((foldC P r g (nLo P)).1 55 + nI 1), ?_, hc.t3 hv _, Fi.u Fi.rf (Or.inl ⟨by omega, by omega⟩)⟩
      rw [B_X0_passOne_93]
      simp only [g0, if_true, s_size _ Tl, bI_eq, B_X0_passOne_187, hc.ti.1]
      rw [if_pos (nI_le (by omega) (by omega))]
    | succ k ih =>
      intro i hi I hp hc h57 B
      have Tl := hc.tl G ha hv
      have hi2 : i < nLo P := by omega
      obtain ⟨hq, he7⟩ := foldC_ok (g := g) hr hv (n := i) (by omega)
      have h7 := he7 i (by omega) hi2
      have next : ∀ J, PC S J P → CS J a P (foldC P r g (i + 1)).1 → (∀ j, j < 5 → J 57 j = (foldC P r g (i + 1)).2 j) → Begun J (r 55) (upS P r) (stS P r) → Fi (airA a) I J → ∃ J', evk zcod none (d + 4) zc_X0_passOne 181 [(0, .ref 56), (1, .ref a), (3, .int (nI (soB P r (nI 1)))), (4, .int (nI i))] [] (S, J, L) = some (none, (S, J', L)) ∧ CS J' a P (ur (foldC P r g (nLo P)).1 55 ((foldC P r g (nLo P)).1 55 + nI 1)) ∧ Fi (airA a) I J' := by
        intro J p1 p2 p3 p4 f
        obtain ⟨J', e, z1, z2⟩ := ih (i + 1) (by omega) J p1 p2 p3 p4
        refine ⟨J', ?_, z1, f.tr z2⟩
        rw [B_X0_passOne_181, nI_add]
        exact e
      have fs : foldC P r g (i + 1) = stepC P r i (foldC P r g i) := rfl
      rw [B_X0_passOne_93]
      simp only [g0, if_true, s_size _ Tl, bI_eq, bit i hi2]
      rw [if_neg (nI_ge hi2 (by omega))]
      by_cases c : r (7 + i) = nI 1
      · rw [if_pos c, if_neg n10f, B_X0_passOne_119]
        obtain ⟨kk, hkk, e21, e35⟩ := (hq.1 i hi2).2.2.1 (h7.trans c)
        have e28 := (hq.1 i hi2).2.2.2.2.2 (by rw [h7, c]; decide +kernel)
        simp only [g0, gAir G, if_true, n10, if_false, s_atN _ Tl hi2 (show 4 < 7 by omega), bI_eq, hc.lo hi2, hp.2.1]
        by_cases c1 : sta P 0 ≤ (foldC P r g i).1 (14 + i)
        · obtain ⟨J, c', e, ec, z1, z2, z3, z4⟩ := s_comeToRim (d := d) (L := L) G ha ha2 hv hp hq.2.2 hc B hi2 hkk e21 e28 (hq.1 i hi2).1 h57
          have ec2 : stepC P r i (foldC P r g i) = c' := by
            unfold stepC
            rw [if_pos c, if_pos c1]
            exact ec
          rw [if_neg (by rw [i_lt]; rw [i_le] at c1; omega)]
          simp only [e, bV_eq, if_true]
          have f : Fi (airA a) I J := z4.up fun x j w => by unfold skA at w; unfold airA; omega
          exact next J (hp.air ha ha2 f) (by rw [fs, ec2]; exact z1) (by rw [fs, ec2]; exact z2) z3 f
        · rw [if_pos (by rw [i_lt]; rw [i_le] at c1; omega), B_X0_passOne_156]
          simp only [g0, gAir G, if_true, n10, if_false, s_atN _ Tl hi2 (show 4 < 7 by omega), bI_eq, hc.lo hi2]
          by_cases c2 : (foldC P r g i).1 (14 + i) ≤ nI 0
          · obtain ⟨J, e, z1, z2⟩ := s_bringDown (d := d + 2) (L := L) G ha hv hc hi2 hkk e21 (nI 0)
            have ec2 : stepC P r i (foldC P r g i) = (downR (foldC P r g i).1 i (nI 0), (foldC P r g i).2) := by
              unfold stepC
              rw [if_pos c, if_neg c1, if_pos c2]
            rw [if_neg (by rw [i_lt]; rw [i_le] at c2; omega)]
            simp only [e, bV_eq, if_true]
            have f : Fi (airA a) I J := z2.up fun x j w => by unfold airA; omega
            exact next J (hp.air ha ha2 f) (by rw [fs, ec2]; exact z1) (by rw [fs, ec2]; intro j hj; rw [z2 57 j (by omega)]; exact h57 j hj) (B.off fun j => z2 54 j (by omega)) f
          · have ec2 : stepC P r i (foldC P r g i) = foldC P r g i := by
              unfold stepC
              rw [if_pos c, if_neg c1, if_neg c2]
            rw [if_pos (by rw [i_lt]; rw [i_le] at c2; omega)]
            exact next I hp (by rw [fs, ec2]; exact hc) (by rw [fs, ec2]; exact h57) B Fi.rf
      · rw [if_neg c, if_pos rfl, B_X0_passOne_118, B_X0_passOne_119, if_pos rfl, B_X0_passOne_156, if_pos rfl]
        have ec2 : stepC P r i (foldC P r g i) = foldC P r g i := by
          unfold stepC
          rw [if_neg c]
        exact next I hp (by rw [fs, ec2]; exact hc) (by rw [fs, ec2]; exact h57) B Fi.rf
  -- the second loop
  have k2 : ∀ k i, i + k = 5 → ∀ I : mI, PC S I P → CS I a P (drf P r g (nLo P)) → (∀ j, j < i → I 57 j = nI 0) → Begun I (r 55) (upS P r) (stS P r) → ∃ J, evk zcod none (d + 4) zc_X0_passOne 66 [(0, .ref 56), (1, .ref a), (3, .int (nI (soB P r (nI 1)))), (4, .int (nI i))] [] (S, I, L) = some (none, (S, J, L)) ∧ CS J a P (ur (foldC P r g (nLo P)).1 55 ((foldC P r g (nLo P)).1 55 + nI 1)) ∧ Fi (airA a) I J := by
    intro k
    induction k with
    | zero =>
      intro i hi I hp hc h57 B
      obtain ⟨J, e, z1, z2⟩ := k3 (nLo P) 0 (by omega) I hp hc (fun j hj => h57 j (by omega)) B
      refine ⟨J, ?_, z1, z2⟩
      rw [B_X0_passOne_66]
      simp only [gAir G, if_true]
      rw [if_pos (nI_le (by omega) (by omega)), B_X0_passOne_90]
      exact e
    | succ k ih =>
      intro i hi I hp hc h57 B
      have f0 : Fi (airA a) I (uI I 57 i (nI 0)) := Fi.u Fi.rf (by unfold airA; omega)
      obtain ⟨J, e, z1, z2⟩ := ih (i + 1) (by omega) (uI I 57 i (nI 0)) (hp.air ha ha2 f0) (hc.congI fun x j p w => uI_off (by omega)) (fun j hj => by
        by_cases w : j = i
        · rw [w]; exact uI_same _ _ _ _
        · rw [uI_ix w]; exact h57 j (by omega)) (B.off fun j => uI_off (by omega))
      refine ⟨J, ?_, z1, f0.tr z2⟩
      rw [B_X0_passOne_66]
      simp only [gAir G, if_true, true_and]
      rw [if_neg (nI_ge (by omega) (by omega)), if_pos ((zin_nI (by omega)).mpr (by omega)), zix_nI (by omega), nI_add]
      exact e
  -- the first loop
  have k1 : ∀ k i, i + k = nLo P → ∀ I : mI, PC S I P → CS I a P (drf P r g i) → Begun I (r 55) (upS P r) (stS P r) → ∃ J, evk zcod none (d + 4) zc_X0_passOne 28 [(0, .ref 56), (1, .ref a), (2, .int (if g = true then nI 1 else nI 0)), (3, .int (nI (soB P r (nI 1)))), (4, .int (nI i))] [] (S, I, L) = some (none, (S, J, L)) ∧ CS J a P (ur (foldC P r g (nLo P)).1 55 ((foldC P r g (nLo P)).1 55 + nI 1)) ∧ Fi (airA a) I J := by
    intro k
    induction k with
    | zero =>
      intro i hi I hp hc B
      rw [show i = nLo P by omega] at hc ⊢
      have Tl := hc.tl G ha hv
      obtain ⟨J, e, z1, z2⟩ := k2 5 0 (by omega) I hp hc (fun j hj => by omega) B
      refine ⟨J, ?_, z1, z2⟩
      rw [B_X0_passOne_28]
      simp only [g0, if_true, s_size _ Tl, bI_eq]
      rw [if_pos (nI_le (by omega) (by omega)), B_X0_passOne_63]
      exact e
    | succ k ih =>
      intro i hi I hp hc B
      have hi2 : i < nLo P := by omega
      have Tl := hc.tl G ha hv
      rw [B_X0_passOne_28]
      simp only [g0, gAir G, if_true, s_size _ Tl, bI_eq, bit i hi2]
      rw [if_neg (nI_ge hi2 (by omega))]
      by_cases c : r (7 + i) = nI 1
      · rw [if_pos c, if_neg n10f]
        obtain ⟨kk, hkk, e21, e35⟩ := (hr.1 i hi2).2.2.1 c
        have e21' : drf P r g i (21 + i) = nI kk := (drf_n fun j hj => by omega).trans e21
        obtain ⟨J, e, z1, z2, z3⟩ := s_drift (d := d) (L := L) G ha ha2 hv hp hc B hi2 hkk e21' g
        have f : Fi (airA a) I J := z3.up fun x j w => by unfold skA at w; unfold airA; omega
        have ed : drf P r g (i + 1) = drX P (r 55) (upS P r) (stS P r) g i kk (drf P r g i) := by
          show (if r (7 + i) = nI 1 then drX P (r 55) (upS P r) (stS P r) g i (kS r i) (drf P r g i) else drf P r g i) = _
          rw [if_pos c, kS_of e21 (by omega)]
        obtain ⟨J', e', w1, w2⟩ := ih (i + 1) (by omega) J (hp.air ha ha2 f) (by rw [ed]; exact z1) z2
        refine ⟨J', ?_, w1, f.tr w2⟩
        simp only [e, bV_eq, if_true, B_X0_passOne_57, nI_add]
        exact e'
      · rw [if_neg c, if_pos rfl, B_X0_passOne_57, nI_add]
        have ed : drf P r g (i + 1) = drf P r g i := if_neg c
        obtain ⟨J', e', w1, w2⟩ := ih (i + 1) (by omega) I hp (by rw [ed]; exact hc) B
        exact ⟨J', e', w1, w2⟩
  have f0 := skB_f I (r 55) (upS P r) (stS P r)
  have fa : Fi (airA a) I (skB I (r 55) (upS P r) (stS P r)) := f0.up fun x j w => by unfold airA; omega
  obtain ⟨J, e, z1, z2⟩ := k1 (nLo P) 0 (by omega) (skB I (r 55) (upS P r) (stS P r)) (hp.air ha ha2 fa) (hc.congI fun x j p w => f0 x j (by omega)) (skB_b _ _ _ _)
  refine ⟨J, ?_, z1, fa.tr z2⟩
  rw [← e, E_X0_passOne]
  simp only [B_X0_passOne_0, B_X0_passOne_25, g0, gAir G, gSky G, if_true, s_loadsThat _ G ha hv hc, s_up _ G ha hv hc, s_stored _ G ha hv hc, bI_eq, hc.ti.1, s_begin _ G, bV_eq]
  rfl
theorem s_pass (d : Nat) {S : mS} {L : mJ} {a : Nat} {P : mP} (G : Gd S) (ha : isSt a = true) (ha2 : a + 6 < 54) (hv : PV P) (sd : Int32) {n : Nat} (hn : n < 100) : ∀ {I : mI} {r : mW}, RV P r → PC S I P → CS I a P r → ∃ J, evM zcod (d + 6) 82 [.ref 56, .ref a, .int (nI n), .int sd] (S, I, L) = some (none, (S, J, L)) ∧ CS J a P (goesS P sd n r) ∧ Fi (airA a) I J := by
  have g0 := gSt G ha
  have key : ∀ k i, i + k = n → ∀ {I : mI} {r : mW}, RV P r → PC S I P → CS I a P r → ∃ J, evk zcod none (d + 5) zc_X0_pass 3 [(0, .ref 56), (1, .ref a), (2, .int (nI n)), (3, .int sd), (4, .int (nI i))] [] (S, I, L) = some (none, (S, J, L)) ∧ CS J a P (goesS P sd k r) ∧ Fi (airA a) I J := by
    intro k
    induction k with
    | zero =>
      intro i hi I r hr hp hc
      refine ⟨I, ?_, hc, Fi.rf⟩
      rw [B_X0_pass_3, if_pos (nI_le (by omega) (by omega)), B_X0_pass_50]
    | succ k ih =>
      intro i hi I r hr hp hc
      rw [B_X0_pass_3, if_neg (nI_ge (by omega) (by omega))]
      simp only [g0, if_true, s_up _ G ha hv hc, bI_eq, hc.ti.1]
      have v := hv.1
      have cl := cn_le (isS r (nI 1)) (nLo P)
      by_cases c : soN P r (nI 1) = 0
      · rw [c, if_neg (fun q => q rfl), pk_sub (by omega)]
        refine ⟨uI I a 3 (r 55 + nI (n - i)), rfl, ?_, Fi.u Fi.rf (Or.inl ⟨by omega, by omega⟩)⟩
        rw [goes_no hv _ _ c, show n - i = k + 1 by omega]
        exact hc.t3 hv _
      · have c0 : ¬ nI (soN P r (nI 1)) = nI 0 := fun q => c ((nI_eq (by unfold soN; omega) (by omega)).mp q)
        rw [if_pos c0, B_X0_pass_30]
        obtain ⟨J, e, z1, z2⟩ := s_passOne (d := d) (L := L) G ha ha2 hv hr hp hc (gustS P sd (r 55))
        simp only [g0, gAir G, if_true, hc.ti.1, s_gust _ G hp.2.2.1, bI_eq, e, bV_eq, nI_add]
        obtain ⟨J', e', w1, w2⟩ := ih (i + 1) (by omega) (hour_RV (sd := sd) hr hv) (hp.air ha ha2 z2) z1
        exact ⟨J', e', w1, z2.tr w2⟩
  intro I r hr hp hc
  obtain ⟨J, e, z1, z2⟩ := key n 0 (by omega) hr hp hc
  refine ⟨J, ?_, z1, z2⟩
  rw [← e, E_X0_pass, B_X0_pass_0]
