/-! the reference: an hour, hours -/
theorem nh_congr {P : mP} {r r' : mW} {x : Int32} {fr fr' : Nat → Bool} : ∀ {n : Nat}, n < 100 → (∀ h, h < n → r (50 + h) = r' (50 + h) ∧ fr h = fr' h) → nh P r x fr n = nh P r' x fr' n
  | 0, _, _ => rfl
  | n + 1, hn, h => by
    have ih := nh_congr (P := P) (x := x) (n := n) (by omega) fun k hk => h k (by omega)
    unfold nh
    rw [ih, (h n (by omega)).1, (h n (by omega)).2]
    rcases nh_or P r' x fr' n with e | ⟨b, hb, e⟩
    · rw [e]
      by_cases c : sta P (40 + n) < hoff (r' (50 + n)) x ∨ fr' n = false
      · rw [if_pos c, if_pos c]
      · rw [if_neg c, if_neg c, if_pos (Or.inl m2_neg), if_pos (Or.inl m2_neg)]
    · rw [e, t_nI (by omega), Int.toNat_natCast, (h b (by omega)).1]
theorem drf_x {P : mP} {r : mW} {g : Bool} (hr : RV P r) (hv : PV P) {i : Nat} (hi : i < nLo P) (air : r (7 + i) = nI 1) : ∀ {n : Nat}, i < n → n ≤ nLo P → drf P r g n i = xT P r g i ∧ drf P r g n (14 + i) = hiT P r i
  | n + 1, h, hn => by
    have v1 := hv.1
    have v2 := hv.2.1
    by_cases e : i = n
    · subst e
      unfold drf
      rw [if_pos air]
      obtain ⟨k, hk, e21, e35⟩ := (hr.1 i hi).2.2.1 air
      have q1 : drf P r g i i = r i := drf_n fun j hj => by omega
      have q2 : drf P r g i (14 + i) = r (14 + i) := drf_n fun j hj => by omega
      have q3 : drf P r g i (40 + kS r i) = r (40 + kS r i) := drf_n fun j hj => by omega
      unfold drX
      refine ⟨?_, ?_⟩
      · rw [ur_s, q1, q2, q3]; rfl
      · rw [ur_n (by omega), ur_s, q1, q2]; rfl
    · unfold drf
      have ih := drf_x (g := g) hr hv hi air (n := n) (by omega) (by omega)
      split
      · rw [drX_n (by omega) (by omega), drX_n (by omega) (by omega)]
        exact ih
      · exact ih
theorem foldC_x {P : mP} {r : mW} {g : Bool} (hr : RV P r) (hv : PV P) {i : Nat} (hi : i < nLo P) (air : r (7 + i) = nI 1) : ∀ {n : Nat}, n ≤ i → (foldC P r g n).1 i = xT P r g i ∧ (foldC P r g n).1 (14 + i) = hiT P r i
  | 0, _ => drf_x hr hv hi air hi (Nat.le_refl _)
  | n + 1, h => by
    have v1 := hv.1
    obtain ⟨h1, h2⟩ := foldC_ok (g := g) hr hv (n := n) (by omega)
    have ih := foldC_x (g := g) hr hv hi air (n := n) (by omega)
    have e7 := h2 n (by omega) (by omega)
    show (stepC P r n (foldC P r g n)).1 i = _ ∧ (stepC P r n (foldC P r g n)).1 (14 + i) = _
    rw [stepC_n h1 hv (by omega) e7 (by omega) (by omega) (by omega) (by omega) (by omega), stepC_n h1 hv (by omega) e7 (by omega) (by omega) (by omega) (by omega) (by omega)]
    exact ih
def loA (a j i : Nat) : Prop := mkA a j ∨ (a = 422 ∨ a = 423 ∨ a = 424) ∧ j = i
theorem m_looksOn (d : Nat) {S : mS} {I : mI} {L : mJ} {P : mP} {v : Nat} {r : mW} (G : Gd S) (hv : PV P) (h : MC S I P v) (hr : RW I r) {i k : Nat} (hi : i < nLo P) (hk : k < nSi P) (e21 : r (21 + i) = nI k) (g : Bool) : ∃ J, evM zcod (d + 4) 215 [.ref 384, .int (nI i), .int (upS P r), .int (if g = true then nI 1 else nI 0)] (S, I, L) = some (none, (S, J, L)) ∧ J 422 i = hiT P r i ∧ J 423 i = xT P r g i ∧ J 424 i = paT P r i ∧ Fi (fun a j => loA a j i) I J := by
  have v1 := hv.1
  have v2 := hv.2.1
  have hv2 := h.1
  have ks := kS_of e21 (by omega)
  have z0 : zin (nI i) 58 = True := ixT (by omega) (by omega)
  have z1 : zix (nI i) = i := ixI (by omega)
  have z2 : zin (nI (21 + i)) 58 = True := ixT (by omega) (by omega)
  have z3 : zix (nI (21 + i)) = 21 + i := ixI (by omega)
  have z4 : zin (nI (14 + i)) 58 = True := ixT (by omega) (by omega)
  have z5 : zix (nI (14 + i)) = 14 + i := ixI (by omega)
  have z6 : zin (nI (5 * v + k)) 10 = True := ixT (by omega) (by omega)
  have z7 : zix (nI (5 * v + k)) = 5 * v + k := ixI (by omega)
  have z8 : zin (nI (7 * v + i)) 14 = True := ixT (by omega) (by omega)
  have z9 : zix (nI (7 * v + i)) = 7 * v + i := ixI (by omega)
  have z10 : zin (nI (40 + k)) 58 = True := ixT (by omega) (by omega)
  have z11 : zix (nI (40 + k)) = 40 + k := ixI (by omega)
  have z12 : zin (nI i) 7 = True := ixT (by omega) (by omega)
  obtain ⟨J1, e1, f1⟩ := m_windBy d (L := L) G hv h hr (r 55) (upS P r) (r (14 + i)) (r i)
  have h1 := h.fi (mk_mj f1)
  have r1 := hr.mk f1
  obtain ⟨J2, e2, f2⟩ := m_liftBy d (L := L) G hv h1 r1 (r 55) (upS P r) (sta P (30 + k)) (sta P (10 + i)) (r (14 + i)) (r i)
  have h2 := h1.fi (mk_mj f2)
  have r2 := r1.mk f2
  let W := lawW P (r 55) (upS P r) (stS P r) (r (14 + i)) (r i)
  let hi' := r (14 + i) + lawL P (r 55) (upS P r) (stS P r) (sta P (30 + k)) (sta P (10 + i)) (r (14 + i)) (r i)
  have ehi : hi' = hiT P r i := by unfold hiT; rw [ks]
  have ex : hld (r i + r (40 + k) + W + moT g W) (nI 0) (nI 19) = xT P r g i := by
    unfold xT wiT
    rw [ks, Int32.add_assoc (r i), Int32.add_assoc (r i)]
  let J3 := uI J2 422 i hi'
  let J4 := uI J3 423 i (xT P r g i)
  have f4 : Fi (fun a j => loA a j i) I J4 := Fi.u (Fi.u ((f1.tr f2).up fun a j q => Or.inl q) (Or.inr ⟨Or.inl rfl, rfl⟩)) (Or.inr ⟨Or.inr (Or.inl rfl), rfl⟩)
  have l_mj : ∀ {a j}, loA a j i → mj a j := fun {a j} q => by unfold loA mkA at q; unfold mj; omega
  have h4 := h.fi (f4.up fun a j q => l_mj q)
  have r4 : RW J4 r := fun j q => (f4 420 j (by unfold loA mkA; omega)).trans (hr j q)
  obtain ⟨J5, e5, f5⟩ := m_paysBy d (L := L) G hv h4 r4 (r 55) (upS P r) hi
  have mid : ∀ s0, s0 = moT g W → evk zcod none (d + 3) zc_X12_looksOn 67 [(0, .ref 384), (1, .int (nI i)), (2, .int (upS P r)), (4, .int (nI k)), (5, .int W)] [.int s0] (S, J1, L) = some (none, (S, uI J5 424 i (paT P r i), L)) := by
    intro s0 es
    have o3 : ∀ j, j < 58 → uI J2 422 i hi' 420 j = r j := fun j q => (uI_off (by omega)).trans (r2 j q)
    rw [B_X12_looksOn_67]
    simp only [gM G, if_true, true_and, nI_add, pk_mul, z0, z1, z2, z3, z4, z5, z6, z7, z8, z9, z10, z11, z12, zt58, zx, h1.2.1, r1 (14 + i) (by omega), r1 55 (by omega), r1 i (by omega), h1.2.2.2.2.2.2.2.2.2.1 k hk, (h1.2.2.2.2.2.2.2.2.1 i hi).1, e2, bI_eq, m_held]
    simp only [show r (14 + i) + lawL P (r 55) (upS P r) (stS P r) (sta P (30 + k)) (sta P (10 + i)) (r (14 + i)) (r i) = hi' from rfl, o3 i (by omega), o3 (40 + k) (by omega), es, ex]
    rw [show uI (uI J2 422 i hi') 423 i (xT P r g i) = J4 from rfl, B_X12_looksOn_175]
    simp only [gM G, if_true, true_and, zt58, zx, r4 55 (by omega), e5, bI_eq, z12, z1]
    rfl
  refine ⟨uI J5 424 i (paT P r i), ?_, ?_, ?_, uI_same _ _ _ _, Fi.u (f4.tr (f5.up fun a j q => Or.inl q)) (Or.inr ⟨Or.inr (Or.inr rfl), rfl⟩)⟩
  · rw [E_X12_looksOn]
    simp only [B_X12_looksOn_0, gM G, if_true, true_and, nI_add, z0, z1, z2, z3, z4, z5, zt58, zx, hr (21 + i) (by omega), hr 55 (by omega), hr (14 + i) (by omega), hr i (by omega), e21, e1, bI_eq]
    cases g
    · rw [if_neg (fun q => q (if_neg (by decide)))]
      exact mid _ rfl
    · simp only [if_true, n10, not_false_eq_true]
      rw [B_X12_looksOn_48]
      by_cases c1 : W ≤ nI 0
      · rw [if_pos c1, B_X12_looksOn_57]
        by_cases c2 : nI 0 ≤ W
        · rw [if_pos c2, B_X12_looksOn_66]
          exact mid _ (by unfold moT; rw [if_pos rfl, if_neg (by rw [i_lt]; rw [i_le] at c1; omega), if_neg (by rw [i_lt]; rw [i_le] at c2; omega)])
        · rw [if_neg c2]
          exact mid _ (by unfold moT; rw [if_pos rfl, if_neg (by rw [i_lt]; rw [i_le] at c1; omega), if_pos (by rw [i_lt]; rw [i_le] at c2; omega)])
      · rw [if_neg c1]
        exact mid _ (by unfold moT; rw [if_pos rfl, if_pos (by rw [i_lt]; rw [i_le] at c1; omega)])
  · rw [uI_off (by omega), f5 422 i (by unfold mkA; omega)]
    show uI J3 423 i _ 422 i = _
    rw [uI_off (by omega)]
    exact (uI_same _ _ _ _).trans ehi
  · rw [uI_off (by omega), f5 423 i (by unfold mkA; omega)]
    exact uI_same _ _ _ _
theorem m_isDown (d : Nat) {S : mS} {I : mI} {L : mJ} {r : mW} (G : Gd S) (hr : RW I r) {i k : Nat} (hi : i < 7) (hk : k < 5) (e21 : r (21 + i) = nI k) (how : Int32) : ∃ J, evM zcod (d + 1) 213 [.ref 384, .int (nI i), .int how] (S, I, L) = some (none, (S, J, L)) ∧ RW J (downR r i how) ∧ Fi (fun a _ => a = 420) I J := by
  have ks := kS_of e21 (by omega)
  have z2 : zin (nI (21 + i)) 58 = True := ixT (by omega) (by omega)
  have z3 : zix (nI (21 + i)) = 21 + i := ixI (by omega)
  have z4 : zin (nI (14 + i)) 58 = True := ixT (by omega) (by omega)
  have z5 : zix (nI (14 + i)) = 14 + i := ixI (by omega)
  have z6 : zin (nI (7 + i)) 58 = True := ixT (by omega) (by omega)
  have z7 : zix (nI (7 + i)) = 7 + i := ixI (by omega)
  have z8 : zin (nI (35 + k)) 58 = True := ixT (by omega) (by omega)
  have z9 : zix (nI (35 + k)) = 35 + k := ixI (by omega)
  refine ⟨uI (uI (uI (uI I 420 (35 + k) (-2)) 420 (21 + i) (-2)) 420 (14 + i) (nI 0)) 420 (7 + i) how, ?_, fun j q => ?_, Fi.u (Fi.u (Fi.u (Fi.u Fi.rf rfl) rfl) rfl) rfl⟩
  · rw [E_X12_isDown]
    simp only [B_X12_isDown_0, B_X12_isDown_50, gM G, if_true, true_and, nI_add, z2, z3, z4, z5, z6, z7, hr (21 + i) (by omega), e21, z8, z9]
  · unfold downR
    rw [ks]
    simp only [uI_at, ur, true_and]
    have hj := hr j q
    by_cases c1 : j = 7 + i
    · subst c1
      rw [if_pos rfl, if_neg (by omega), if_neg (by omega), if_pos rfl]
    · rw [if_neg c1]
      by_cases c2 : j = 14 + i
      · subst c2
        rw [if_pos rfl, if_neg (by omega), if_pos rfl]
      · rw [if_neg c2]
        by_cases c3 : j = 21 + i
        · subst c3
          rw [if_pos rfl, if_pos rfl]
        · rw [if_neg c3, if_neg c3, if_neg c2, if_neg c1]
          by_cases c4 : j = 35 + k
          · rw [if_pos c4, if_pos c4]
          · rw [if_neg c4, if_neg c4, hj]
/-- the reference's row while loads come to their ends: those to come still are as they were -/
def mro (r q : mW) (i : Nat) : mW := fun j => if i ≤ j ∧ j < 7 ∨ 14 + i ≤ j ∧ j < 21 then r j else q j
theorem downR_mro {r q : mW} {i k : Nat} {how : Int32} (hi : i < 7) (e21 : q (21 + i) = nI k) (hk : k < 5) : downR (mro r q (i + 1)) i how = mro r (downR q i how) (i + 1) := by
  have e : mro r q (i + 1) (21 + i) = nI k := by
    unfold mro
    rw [if_neg (by omega)]
    exact e21
  unfold downR
  rw [kS_of e (by omega), kS_of e21 (by omega)]
  funext j
  unfold mro ur
  by_cases c : i + 1 ≤ j ∧ j < 7 ∨ 14 + (i + 1) ≤ j ∧ j < 21
  · rw [if_pos c, if_neg (by omega), if_neg (by omega), if_neg (by omega), if_neg (by omega)]
    exact if_pos c
  · simp only [if_neg c]
theorem m_comesUp (d : Nat) {S : mS} {I : mI} {L : mJ} {P : mP} {v : Nat} {r0 q : mW} (G : Gd S) (hv : PV P) (h : MC S I P v) {i k : Nat} (hi : i < nLo P) (hk : k < nSi P) (hr : RW I (mro r0 q (i + 1))) (e21 : q (21 + i) = nI k) {c : Nat → Int32} (hc : ∀ j, j < 5 → I 421 j = c j) {pay : Int32} (hp : I 424 i = pay) :
    ∃ J c', evM zcod (d + 3) 214 [.ref 384, .int (nI i)] (S, I, L) = some (none, (S, J, L)) ∧
      ((if nhA P q (q i) (freeC P c) < nI 0 then (downR q i (nI 3), c) else (ur (ur (downR q i (nI 2)) (28 + i) (nhA P q (q i) (freeC P c))) 56 (q 56 + pay), updC c (nhA P q (q i) (freeC P c)).toInt.toNat (c (nhA P q (q i) (freeC P c)).toInt.toNat + nI 1))) = c') ∧
      RW J (mro r0 c'.1 (i + 1)) ∧ (∀ j, j < 5 → J 421 j = c'.2 j) ∧ Fi (fun a _ => a = 420 ∨ a = 421) I J := by
  have v1 := hv.1
  have v2 := hv.2.1
  have v3 := hv.2.2.1
  have z1 : zin (nI i) 58 = True := ixT (by omega) (by omega)
  have z2 : zix (nI i) = i := ixI (by omega)
  have z3 : zin (nI (28 + i)) 58 = True := ixT (by omega) (by omega)
  have z4 : zix (nI (28 + i)) = 28 + i := ixI (by omega)
  have z5 : zin (nI i) 7 = True := ixT (by omega) (by omega)
  have ei : mro r0 q (i + 1) i = q i := by unfold mro; rw [if_neg (by omega)]
  have en : nhA P (mro r0 q (i + 1)) (q i) (freeC P c) = nhA P q (q i) (freeC P c) := nh_congr (by omega) fun h hh => ⟨by unfold mro; rw [if_neg (by omega)], rfl⟩
  have hk2 := m_hookAt d (L := L) G hv h hr (q i) (fr := freeC P c) (fun j hj => by unfold freeC; rw [hc j (by omega)])
  rw [en] at hk2
  have e21' : mro r0 q (i + 1) (21 + i) = nI k := by
    unfold mro
    rw [if_neg (by omega)]
    exact e21
  rw [E_X12_comesUp]
  simp only [B_X12_comesUp_0, gM G, if_true, true_and, z1, z2, hr i (by omega), ei, hk2, bI_eq]
  rcases nh_neg (P := P) (r := q) (x := q i) (fr := freeC P c) with ⟨n1, n2⟩ | ⟨g, hg, n2⟩
  · obtain ⟨J, e, rw1, f⟩ := m_isDown (d + 1) (L := L) G hr (by omega) (show k < 5 by omega) e21' (nI 3)
    have n3 : ¬ nI 0 ≤ nhA P q (q i) (freeC P c) := by rw [i_le]; rw [i_lt] at n1; omega
    refine ⟨J, _, ?_, rfl, ?_, ?_, f.up fun a j w => Or.inl w⟩
    · rw [if_neg n3, B_X12_comesUp_22]
      simp only [gM G, if_true, e, bV_eq]
      rw [if_neg n3]
    · rw [if_pos n1]
      rw [downR_mro (by omega) e21 (by omega)] at rw1
      exact rw1
    · rw [if_pos n1]
      exact fun j hj => (f 421 j (by omega)).trans (hc j hj)
  · obtain ⟨J, e, rw1, f⟩ := m_isDown (d + 1) (L := L) G hr (by omega) (show k < 5 by omega) e21' (nI 2)
    rw [downR_mro (by omega) e21 (by omega)] at rw1
    have n1 : ¬ nI g < nI 0 := nI_nlt (by omega) (by omega)
    have n3 : nI 0 ≤ nI g := nI_le (by omega) (by omega)
    have z6 : zin (nI g) 5 = True := ixT (by omega) (by omega)
    have z7 : zix (nI g) = g := ixI (by omega)
    have j421 : J 421 g = c g := (f 421 g (by omega)).trans (hc g (by omega))
    have d56 : mro r0 (downR q i (nI 2)) (i + 1) 56 = q 56 := by
      unfold mro
      rw [if_neg (by omega)]
      unfold downR
      rw [kS_of e21 (by omega), ur_n (by omega), ur_n (by omega), ur_n (by omega), ur_n (by omega)]
    have j56 : J 420 56 = q 56 := (rw1 56 (by omega)).trans d56
    have j424 : J 424 i = pay := (f 424 i (by omega)).trans hp
    refine ⟨uI (uI (uI J 421 g (c g + nI 1)) 420 (28 + i) (nI g)) 420 56 (q 56 + pay), _, ?_, rfl, ?_, ?_, Fi.u (Fi.u (Fi.u (f.up fun a j w => Or.inl w) (Or.inr rfl)) (Or.inl rfl)) (Or.inl rfl)⟩
    · rw [n2, if_pos n3, B_X12_comesUp_21, B_X12_comesUp_22]
      simp only [gM G, if_true, e, bV_eq]
      rw [if_pos n3, B_X12_comesUp_30]
      have o1 : uI (uI J 421 g (c g + nI 1)) 420 (28 + i) (nI g) 420 56 = q 56 := (uI_ix (by omega)).trans ((uI_off (by omega)).trans j56)
      have o2 : uI (uI J 421 g (c g + nI 1)) 420 (28 + i) (nI g) 424 i = pay := (uI_off (by omega)).trans ((uI_off (by omega)).trans j424)
      simp only [gM G, if_true, true_and, nI_add, z1, z2, z3, z4, z5, z6, z7, zt58, zx, j421, o1, o2]
    · rw [n2, if_neg n1]
      intro j hj
      have w := rw1 j hj
      show uI (uI (uI J 421 g (c g + nI 1)) 420 (28 + i) (nI g)) 420 56 (q 56 + pay) 420 j = mro r0 (ur (ur (downR q i (nI 2)) (28 + i) (nI g)) 56 (q 56 + pay)) (i + 1) j
      by_cases c1 : j = 56
      · subst c1
        rw [uI_same]
        unfold mro
        rw [if_neg (by omega), ur_s]
      · rw [uI_ix c1]
        by_cases c2 : j = 28 + i
        · subst c2
          rw [uI_same]
          unfold mro
          rw [if_neg (by omega), ur_n c1, ur_s]
        · rw [uI_ix c2, uI_off (by omega), w]
          unfold mro
          rw [ur_n c1, ur_n c2]
    · rw [n2, if_neg n1]
      intro j hj
      show uI (uI (uI J 421 g (c g + nI 1)) 420 (28 + i) (nI g)) 420 56 (q 56 + pay) 421 j = updC c (nI g).toInt.toNat (c (nI g).toInt.toNat + nI 1) j
      rw [uI_off (by omega), uI_off (by omega), t_nI (by omega), Int.toNat_natCast]
      unfold updC
      by_cases w : j = g
      · rw [if_pos w, w]; exact uI_same _ _ _ _
      · rw [if_neg w, uI_ix w, f 421 j (by omega)]; exact hc j hj
theorem drf_keep {P : mP} {r : mW} {g : Bool} {i j : Nat} (hj : (j = i ∨ j = 14 + i) ∧ i < 7) (hv : PV P) (na : nLo P ≤ i ∨ ¬ r (7 + i) = nI 1) : ∀ {n : Nat}, n ≤ nLo P → drf P r g n j = r j
  | 0, _ => rfl
  | n + 1, h => by
    have v1 := hv.1
    unfold drf
    split
    · rename_i c
      have : n ≠ i := by
        rintro rfl
        rcases na with q | q
        · omega
        · exact q c
      rw [drX_n (by omega) (by omega)]
      exact drf_keep hj hv na (by omega)
    · exact drf_keep hj hv na (by omega)
theorem foldC_keep {P : mP} {r : mW} {g : Bool} (hr : RV P r) (hv : PV P) {i j : Nat} (hj : (j = i ∨ j = 14 + i) ∧ i < 7) (na : nLo P ≤ i ∨ ¬ r (7 + i) = nI 1) : ∀ {n : Nat}, n ≤ nLo P → (foldC P r g n).1 j = r j
  | 0, _ => drf_keep hj hv na (Nat.le_refl _)
  | n + 1, h => by
    have v1 := hv.1
    have ih := foldC_keep (g := g) hr hv hj na (n := n) (by omega)
    obtain ⟨h1, h2⟩ := foldC_ok (g := g) hr hv (n := n) (by omega)
    show (stepC P r n (foldC P r g n)).1 j = _
    by_cases e : n = i
    · subst e
      unfold stepC
      rw [if_neg (by rcases na with q | q; omega; exact q)]
      exact ih
    · rw [stepC_n h1 hv (by omega) (h2 n (by omega) (by omega)) (by omega) (by omega) (by omega) (by omega) (by omega)]
      exact ih
def hgA (a j : Nat) : Prop := mkA a j ∨ 420 ≤ a ∧ a ≤ 424
theorem hg_mj {I J : mI} (f : Fi hgA I J) : Fi mj I J := f.up fun a j q => by unfold hgA mkA at q; unfold mj; omega
theorem m_hourGoes (d : Nat) {S : mS} {I : mI} {L : mJ} {P : mP} {v : Nat} {r : mW} (G : Gd S) (hv : PV P) (hok : RV P r) (h : MC S I P v) (hr : RW I r) {sd : Int32} (hs : I 384 54 = sd) : ∃ J, evM zcod (d + 5) 216 [.ref 384] (S, I, L) = some (none, (S, J, L)) ∧ RW J (hourS P sd r) ∧ Fi hgA I J := by
  have v1 := hv.1
  have v2 := hv.2.1
  have v3 := hv.2.2.1
  let g := gustS P sd (r 55)
  have bit : ∀ i, i < nLo P → (nI (soB P r (nI 1)) >>> (nI i &&& nI 31)) &&& nI 1 = if r (7 + i) = nI 1 then nI 1 else nI 0 := fun i hi => by
    unfold soB
    rw [bs_shr (by omega) hi]
    unfold isS
    simp only [decide_eq_true_eq]
  -- second loop
  have k3 : ∀ k i, i + k = nLo P → ∀ I : mI, MC S I P v → RW I (mro r (foldC P r g i).1 i) → (∀ j, j < 5 → I 421 j = (foldC P r g i).2 j) → (∀ j, j < nLo P → r (7 + j) = nI 1 → I 422 j = hiT P r j ∧ I 423 j = xT P r g j ∧ I 424 j = paT P r j) → ∃ J, evk zcod none (d + 4) zc_X12_hourGoes 64 [(0, .ref 384), (1, .int (nI (soB P r (nI 1)))), (4, .int (nI i))] [] (S, I, L) = some (none, (S, J, L)) ∧ RW J (hourS P sd r) ∧ Fi hgA I J := by
    intro k
    induction k with
    | zero =>
      intro i hi I h hr hc ht
      rw [show i = nLo P by omega] at hr ⊢
      have e : ∀ j, mro r (foldC P r g (nLo P)).1 (nLo P) j = (foldC P r g (nLo P)).1 j := by
        intro j
        unfold mro
        by_cases c : nLo P ≤ j ∧ j < 7 ∨ 14 + nLo P ≤ j ∧ j < 21
        · rw [if_pos c]
          by_cases c7 : j < 7
          · exact (foldC_keep hok hv (i := j) ⟨Or.inl rfl, c7⟩ (Or.inl (by omega)) (Nat.le_refl _)).symm
          · exact (foldC_keep hok hv (i := j - 14) ⟨Or.inr (by omega), by omega⟩ (Or.inl (by omega)) (Nat.le_refl _)).symm
        · rw [if_neg c]
      have e55 : I 420 55 = (foldC P r g (nLo P)).1 55 := (hr 55 (by omega)).trans (e 55)
      refine ⟨uI I 420 55 ((foldC P r g (nLo P)).1 55 + nI 1), ?_, fun j q => ?_, Fi.u Fi.rf (Or.inr ⟨by omega, by omega⟩)⟩
      · rw [B_X12_hourGoes_64]
        simp only [gM G, if_true, true_and, h.2.1, zv2 h.1, h.2.2.1, B_X12_hourGoes_172, zt58, zx, e55]
        rw [if_pos (nI_le (by omega) (by omega))]
      · unfold hourS
        by_cases c : j = 55
        · rw [c, uI_same, ur_s]
        · rw [uI_ix c, ur_n c, hr j q]
          exact e j
    | succ k ih =>
      intro i hi I h hr hc ht
      have hi2 : i < nLo P := by omega
      obtain ⟨hq, he7⟩ := foldC_ok (g := g) hok hv (n := i) (by omega)
      have h7 := he7 i (by omega) hi2
      have fs : foldC P r g (i + 1) = stepC P r i (foldC P r g i) := rfl
      have next : ∀ J, MC S J P v → RW J (mro r (foldC P r g (i + 1)).1 (i + 1)) → (∀ j, j < 5 → J 421 j = (foldC P r g (i + 1)).2 j) → Fi (fun a _ => a = 420 ∨ a = 421) I J → ∃ J', evk zcod none (d + 4) zc_X12_hourGoes 166 [(0, .ref 384), (1, .int (nI (soB P r (nI 1)))), (4, .int (nI i))] [] (S, J, L) = some (none, (S, J', L)) ∧ RW J' (hourS P sd r) ∧ Fi hgA I J' := by
        intro J p1 p2 p3 f
        obtain ⟨J', e, w1, w2⟩ := ih (i + 1) (by omega) J p1 p2 p3 (fun j hj air => by
          rw [f 422 j (by omega), f 423 j (by omega), f 424 j (by omega)]
          exact ht j hj air)
        refine ⟨J', ?_, w1, (f.up fun a j q => Or.inr (by omega)).tr w2⟩
        rw [B_X12_hourGoes_166, nI_add]
        exact e
      rw [B_X12_hourGoes_64]
      simp only [gM G, if_true, true_and, h.2.1, zv2 h.1, h.2.2.1, bit i hi2]
      rw [if_neg (nI_ge hi2 (by omega))]
      by_cases c : r (7 + i) = nI 1
      · rw [if_pos c, if_pos n10f, B_X12_hourGoes_90]
        obtain ⟨kk, hkk, e21, e35⟩ := (hq.1 i hi2).2.2.1 (h7.trans c)
        obtain ⟨fx, fh⟩ := foldC_x (g := g) hok hv hi2 c (n := i) (Nat.le_refl _)
        obtain ⟨t1, t2, t3⟩ := ht i hi2 c
        have z1 : zin (nI i) 58 = True := ixT (by omega) (by omega)
        have z2 : zix (nI i) = i := ixI (by omega)
        have z3 : zin (nI (14 + i)) 58 = True := ixT (by omega) (by omega)
        have z4 : zix (nI (14 + i)) = 14 + i := ixI (by omega)
        have z5 : zin (nI i) 7 = True := ixT (by omega) (by omega)
        let I1 := uI (uI I 420 i (xT P r g i)) 420 (14 + i) (hiT P r i)
        have f1 : Fi (fun a _ => a = 420 ∨ a = 421) I I1 := Fi.u (Fi.u Fi.rf (Or.inl rfl)) (Or.inl rfl)
        have h1 : MC S I1 P v := h.fi (f1.up fun a j q => by unfold mj; omega)
        have r1 : RW I1 (mro r (foldC P r g i).1 (i + 1)) := fun j q => by
          show uI (uI I 420 i (xT P r g i)) 420 (14 + i) (hiT P r i) 420 j = _
          unfold mro
          by_cases w1 : j = 14 + i
          · subst w1
            rw [uI_same, if_neg (by omega), fh]
          · rw [uI_ix w1]
            by_cases w2 : j = i
            · subst w2
              rw [uI_same, if_neg (by omega), fx]
            · rw [uI_ix w2, hr j q]
              unfold mro
              by_cases w3 : i ≤ j ∧ j < 7 ∨ 14 + i ≤ j ∧ j < 21
              · rw [if_pos w3, if_pos (by omega)]
              · rw [if_neg w3, if_neg (by omega)]
        have c1' : ∀ j, j < 5 → I1 421 j = (foldC P r g i).2 j := fun j hj => (uI_off (by omega)).trans ((uI_off (by omega)).trans (hc j hj))
        have o1 : uI I 420 i (xT P r g i) 422 i = hiT P r i := (uI_off (by omega)).trans t1
        have o2 : I1 422 i = hiT P r i := (uI_off (by omega)).trans o1
        have o3 : I1 384 18 = nI v := h1.2.1
        have o4 : I1 404 v = sta P 0 := h1.2.2.2.2.2.1
        simp only [gM G, if_true, true_and, nI_add, z1, z2, z3, z4, z5, t2, o1]
        rw [show uI (uI I 420 i (xT P r g i)) 420 (14 + i) (hiT P r i) = I1 from rfl]
        simp only [o2, o3, o4, zv2 h.1, if_true]
        by_cases k1 : sta P 0 ≤ hiT P r i
        · rw [if_neg (by rw [i_lt]; rw [i_le] at k1; omega)]
          obtain ⟨J, c', e, ec, w1, w2, w3⟩ := m_comesUp (d + 1) (L := L) G hv h1 hi2 hkk r1 e21 c1' (pay := paT P r i) ((uI_off (by omega)).trans ((uI_off (by omega)).trans t3))
          have ec2 : stepC P r i (foldC P r g i) = c' := by
            unfold stepC
            rw [if_pos c, if_pos (by rw [fh]; exact k1)]
            exact ec
          simp only [e, bV_eq, if_true]
          exact next J (h1.fi (w3.up fun a j q => by unfold mj; omega)) (by rw [fs, ec2]; exact w1) (by rw [fs, ec2]; exact w2) (f1.tr w3)
        · rw [if_pos (by rw [i_lt]; rw [i_le] at k1; omega), B_X12_hourGoes_149]
          simp only [gM G, if_true, true_and, z5, z2, o2]
          by_cases k2 : hiT P r i ≤ nI 0
          · rw [if_neg (by rw [i_lt]; rw [i_le] at k2; omega)]
            have e21' : mro r (foldC P r g i).1 (i + 1) (21 + i) = nI kk := by
              unfold mro
              rw [if_neg (by omega)]
              exact e21
            obtain ⟨J, e, w1, w2⟩ := m_isDown (d + 3) (L := L) G r1 (by omega) (show kk < 5 by omega) e21' (nI 0)
            rw [downR_mro (by omega) e21 (by omega)] at w1
            have ec2 : stepC P r i (foldC P r g i) = (downR (foldC P r g i).1 i (nI 0), (foldC P r g i).2) := by
              unfold stepC
              rw [if_pos c, if_neg (by rw [fh]; exact k1), if_pos (by rw [fh]; exact k2)]
            simp only [e, bV_eq, if_true]
            exact next J (h1.fi (w2.up fun a j q => by unfold mj; omega)) (by rw [fs, ec2]; exact w1) (by rw [fs, ec2]; intro j hj; rw [w2 421 j (by omega)]; exact c1' j hj) (f1.tr (w2.up fun a j q => Or.inl q))
          · rw [if_pos (by rw [i_lt]; rw [i_le] at k2; omega)]
            have ec2 : stepC P r i (foldC P r g i) = foldC P r g i := by
              unfold stepC
              rw [if_pos c, if_neg (by rw [fh]; exact k1), if_neg (by rw [fh]; exact k2)]
            exact next I1 h1 (by rw [fs, ec2]; exact r1) (by rw [fs, ec2]; exact c1') f1
      · rw [if_neg c, if_neg (fun q => q rfl)]
        have ec2 : stepC P r i (foldC P r g i) = foldC P r g i := by
          unfold stepC
          rw [if_neg c]
        refine next I h ?_ (by rw [fs, ec2]; exact hc) Fi.rf
        rw [fs, ec2]
        intro j q
        rw [hr j q]
        unfold mro
        by_cases w : i + 1 ≤ j ∧ j < 7 ∨ 14 + (i + 1) ≤ j ∧ j < 21
        · rw [if_pos (by omega), if_pos w]
        · rw [if_neg w]
          by_cases w2 : i ≤ j ∧ j < 7 ∨ 14 + i ≤ j ∧ j < 21
          · rw [if_pos w2]
            have : j = i ∨ j = 14 + i := by omega
            exact (foldC_keep hok hv (i := i) ⟨this, by omega⟩ (Or.inr c) (Nat.le_of_lt hi2)).symm
          · rw [if_neg w2]
  -- first loop
  have k1 : ∀ k i, i + k = nLo P → ∀ I : mI, MC S I P v → RW I r → (∀ j, j < 5 → I 421 j = nI 0) → (∀ j, j < i → r (7 + j) = nI 1 → I 422 j = hiT P r j ∧ I 423 j = xT P r g j ∧ I 424 j = paT P r j) → ∃ J, evk zcod none (d + 4) zc_X12_hourGoes 23 [(0, .ref 384), (1, .int (nI (soB P r (nI 1)))), (2, .int (upS P r)), (3, .int (if g = true then nI 1 else nI 0)), (4, .int (nI i))] [] (S, I, L) = some (none, (S, J, L)) ∧ RW J (hourS P sd r) ∧ Fi hgA I J := by
    intro k
    induction k with
    | zero =>
      intro i hi I h hr hc ht
      have r0 : RW I (mro r (foldC P r g 0).1 0) := fun j q => by
        rw [hr j q]
        unfold mro
        by_cases w : 0 ≤ j ∧ j < 7 ∨ 14 + 0 ≤ j ∧ j < 21
        · rw [if_pos w]
        · rw [if_neg w]
          exact (drf_n fun a ha => by omega).symm
      obtain ⟨J, e, w1, w2⟩ := k3 (nLo P) 0 (by omega) I h r0 hc (fun j hj air => ht j (by omega) air)
      refine ⟨J, ?_, w1, w2⟩
      rw [B_X12_hourGoes_23]
      simp only [gM G, if_true, true_and, h.2.1, zv2 h.1, h.2.2.1]
      rw [if_pos (nI_le (by omega) (by omega)), B_X12_hourGoes_61]
      exact e
    | succ k ih =>
      intro i hi I h hr hc ht
      have hi2 : i < nLo P := by omega
      rw [B_X12_hourGoes_23]
      simp only [gM G, if_true, true_and, h.2.1, zv2 h.1, h.2.2.1, bit i hi2, B_X12_hourGoes_55, nI_add]
      rw [if_neg (nI_ge hi2 (by omega))]
      by_cases c : r (7 + i) = nI 1
      · rw [if_pos c, if_neg (fun q => q rfl)]
        obtain ⟨kk, hkk, e21, e35⟩ := (hok.1 i hi2).2.2.1 c
        obtain ⟨J, e, t1, t2, t3, f⟩ := m_looksOn d (L := L) G hv h hr hi2 hkk e21 g
        have l_mj : ∀ {a j}, loA a j i → mj a j := fun {a j} q => by unfold loA mkA at q; unfold mj; omega
        obtain ⟨K, e2, w1, w2⟩ := ih (i + 1) (by omega) J (h.fi (f.up fun a j q => l_mj q)) (fun j q => (f 420 j (by unfold loA mkA; omega)).trans (hr j q)) (fun j hj => (f 421 j (by unfold loA mkA; omega)).trans (hc j hj)) (fun j hj air => by
          by_cases w : j = i
          · subst w; exact ⟨t1, t2, t3⟩
          · rw [f 422 j (by unfold loA mkA; omega), f 423 j (by unfold loA mkA; omega), f 424 j (by unfold loA mkA; omega)]
            exact ht j (by omega) air)
        refine ⟨K, ?_, w1, (f.up (B := hgA) fun a j q => by
          rcases q with q | q
          · exact Or.inl q
          · exact Or.inr (by omega)).tr w2⟩
        simp only [e, bV_eq, if_true, B_X12_hourGoes_55, nI_add]
        exact e2
      · rw [if_neg c, if_pos n01f]
        exact ih (i + 1) (by omega) I h hr hc (fun j hj air => by
          by_cases w : j = i
          · subst w; exact absurd air c
          · exact ht j (by omega) air)
  obtain ⟨J0, e0, z0, f0⟩ := m_handsFree (d + 3) (I := I) (L := L) G
  obtain ⟨J, e, w1, w2⟩ := k1 (nLo P) 0 (by omega) J0 (h.fi (f0.up fun a j q => by unfold mj; omega)) (fun j q => (f0 420 j (by omega)).trans (hr j q)) z0 (fun j hj => absurd hj (by omega))
  refine ⟨J, ?_, w1, (f0.up fun a j q => Or.inr (by omega)).tr w2⟩
  rw [← e, E_X12_hourGoes]
  simp only [B_X12_hourGoes_0, B_X12_hourGoes_20, gM G, if_true, m_loadsSo _ G hv h hr, bI_eq, m_bits _ (bs_128 _ v1), soB, m_gust _ G h hr hs, e0, bV_eq, pc_cn v1]
  rfl
theorem m_goes (d : Nat) {S : mS} {L : mJ} {P : mP} {v : Nat} (G : Gd S) (hv : PV P) {sd : Int32} {n : Nat} (hn : n < 100) : ∀ {I : mI} {r : mW}, RV P r → MC S I P v → RW I r → I 384 54 = sd → ∃ J, evM zcod (d + 6) 217 [.ref 384, .int (nI n)] (S, I, L) = some (none, (S, J, L)) ∧ RW J (goesS P sd n r) ∧ Fi hgA I J := by
  have key : ∀ k i, i + k = n → ∀ {I : mI} {r : mW}, RV P r → MC S I P v → RW I r → I 384 54 = sd → ∃ J, evk zcod none (d + 5) zc_X12_goes 2 [(0, .ref 384), (1, .int (nI n)), (2, .int (nI i))] [] (S, I, L) = some (none, (S, J, L)) ∧ RW J (goesS P sd k r) ∧ Fi hgA I J := by
    intro k
    induction k with
    | zero =>
      intro i hi I r hok h hr hs
      refine ⟨I, ?_, hr, Fi.rf⟩
      rw [B_X12_goes_2, if_pos (nI_le (by omega) (by omega)), B_X12_goes_17]
    | succ k ih =>
      intro i hi I r hok h hr hs
      obtain ⟨J, e, w1, w2⟩ := m_hourGoes d (L := L) G hv hok h hr hs
      obtain ⟨K, e2, w3, w4⟩ := ih (i + 1) (by omega) (hour_RV (sd := sd) hok hv) (h.fi (hg_mj w2)) w1 ((w2 384 54 (by unfold hgA mkA; omega)).trans hs)
      refine ⟨K, ?_, w3, w2.tr w4⟩
      rw [B_X12_goes_2, if_neg (nI_ge (by omega) (by omega))]
      simp only [gM G, if_true, e, bV_eq, nI_add]
      exact e2
  intro I r hok h hr hs
  obtain ⟨J, e, z⟩ := key n 0 (by omega) hok h hr hs
  refine ⟨J, ?_, z⟩
  rw [← e, E_X12_goes, B_X12_goes_0]
