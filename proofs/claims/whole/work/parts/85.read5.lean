/-! reading, reference side: units and ( ) -/
def unA (B a j : Nat) : Prop := a = 384 ∧ (j = 11 ∨ j = 13 ∨ j = 14 ∨ j = 44) ∨ (a = 414 ∨ a = 415) ∧ (B ≤ j ∧ j < B + 420)
theorem unA_ex {B a j : Nat} (h : unA B a j) : exA B a j := by unfold unA at h; unfold exA; omega
theorem emA_un {B a j : Nat} (h : emA B a j) : unA B a j := by unfold emA at h; unfold unA; omega
theorem gk_var : ∀ k, k < 9 → gk (nI (141 + k)) = nI (33 + k) ∧ ¬ nI (33 + k) < nI 33 ∧ ¬ nI 41 < nI (33 + k) ∧ nI (33 + k) - nI 33 = nI k ∧ ¬ nI (141 + k) = nI 3 := by decide +kernel
theorem gk_lo : ∀ n, n ∈ kKs → n < 141 → nI (gkN n) < nI 33 := by decide +kernel
theorem kK_var : ∀ n, n ∈ kKs → 141 ≤ n → ∃ k, k < 9 ∧ n = 141 + k := by
  intro n h q
  have := kK_lt n h
  exact ⟨n - 141, by omega, by omega⟩
theorem cd_v : (cdK (nI 0) = nI 0) ∧ ∀ k, k < 9 → cdK (-10 - nI k) = nI 1 ∧ cdV (-10 - nI k) = nI k := by decide +kernel
theorem m_unit_c (d : Nat) {S : mS} {I : mI} {L : mJ} {K V P : Nat → Int32} {B : Nat} (G : Gd S) (k : TKM I K V P) {t : Nat} (h : MS I K t) {q : Nat} (h1 : I 384 44 = nI q) (hq : q < 840) (hB : B ≤ q ∧ q < B + 420) {c : Int32} (hc : K t = nI 3 ∧ c = V t ∨ ∃ j, j < 9 ∧ K t = nI (141 + j) ∧ c = -10 - nI j) : ∃ J, evM zcod (d + 3) 189 [.ref 384] (S, I, L) = some (none, (S, J, L)) ∧ Fi (unA B) I J ∧ (t < 400 → MS J K (t + 1) ∧ J 384 44 = nI (q + 1) ∧ CM J q [c] ∧ BL I J q) ∧ (¬ t < 400 → MF J P t 2) := by
  have x1 : zin (nI t) 403 = True := ixT (by have := h.1; omega) (by omega)
  have x1i : zix (nI t) = t := ixI (by have := h.1; omega)
  have kt := k.1 t h.1 h.2.2.2
  have hk0 : ¬ K t = nI 0 := by
    rcases hc with z | ⟨j, hj, z, _⟩
    · rw [z.1]; decide +kernel
    · rw [z]
      exact (by decide +kernel : ∀ j, j < 9 → ¬ nI (141 + j) = nI 0) j hj
  have cC : isC c := by
    rcases hc with z | ⟨j, hj, _, z⟩
    · exact Or.inl (by rw [z.2]; exact k.2.2 t z.1)
    · exact Or.inr (Or.inl ⟨j, hj, z⟩)
  let J1 := uI (uI (uI I 414 q (cdK c)) 415 q (cdV c)) 384 44 (nI (q + 1))
  have f1 : Fi (unA B) I J1 := (em_fi I q _ _ _ hB).up fun _ _ => emA_un
  have hJ1 : MS J1 K t := ⟨h.1, (uI_ix (by omega)).trans ((uI_off (by omega)).trans ((uI_off (by omega)).trans h.2.1)), (uI_ix (by omega)).trans ((uI_off (by omega)).trans ((uI_off (by omega)).trans h.2.2.1)), h.2.2.2⟩
  have kJ1 := k.ex (f1.up fun _ _ => unA_ex)
  have em := m_emit (d + 1) (L := L) G h1 hq (cdK c) (cdV c)
  have go : ∃ J, evM zcod (d + 2) 170 [.ref 384] (S, J1, L) = some (none, (S, J, L)) ∧ Fi (unA B) I J ∧ (t < 400 → MS J K (t + 1) ∧ J 384 44 = nI (q + 1) ∧ CM J q [c] ∧ BL I J q) ∧ (¬ t < 400 → MF J P t 2) := by
    by_cases ht : t < 400
    · refine ⟨_, m_goesOn (d + 1) (L := L) G hJ1 ht, f1.tr (Fi.u Fi.rf (Or.inl ⟨rfl, Or.inl rfl⟩)), fun _ => ⟨hJ1.go ht hk0, (uI_ix (by omega)).trans (uI_same _ _ _ _), ⟨?_, ?_, cC, trivial⟩, ?_⟩, fun z => absurd ht z⟩
      · rw [uI_off (by omega)]
        show uI (uI (uI I 414 q (cdK c)) 415 q (cdV c)) 384 44 (nI (q + 1)) 414 q = _
        rw [uI_off (by omega), uI_off (by omega), uI_same]
      · rw [uI_off (by omega)]
        show uI (uI (uI I 414 q (cdK c)) 415 q (cdV c)) 384 44 (nI (q + 1)) 415 q = _
        rw [uI_off (by omega), uI_same]
      · exact (em_bl I q _ _ _).tr (BL.of (fun j => uI_off (by omega)) (fun j => uI_off (by omega)) q) (Nat.le_refl _)
    · refine ⟨_, m_goesOn_full d (L := L) G kJ1 hJ1 ht, f1.tr (Fi.u (Fi.u (x := nI 2) Fi.rf (Or.inl ⟨rfl, by omega⟩)) (Or.inl ⟨rfl, by omega⟩)), fun z => absurd z ht, fun _ => mf_of (K := K) (Or.inr rfl)⟩
  obtain ⟨J, e, r⟩ := go
  refine ⟨J, ?_, r⟩
  rw [E_X12_unit, B_X12_unit_0]
  simp only [gM G, if_true, m_is2 (d + 1) (L := L) G k h, bI_eq]
  rcases hc with ⟨z1, z2⟩ | ⟨j, hj, z1, z2⟩
  · have v0 : nI 0 ≤ V t := k.2.2 t z1
    have c0 : cdK c = nI 0 := by rw [z2]; exact if_pos v0
    have c1 : cdV c = V t := by rw [z2]; exact if_pos v0
    rw [c0, c1] at em
    rw [if_pos z1, if_neg z10]
    simp only [gM G, if_true, true_and, h.2.1, x1, x1i, kt.2.2 z1, em, bV_eq]
    rw [show uI (uI (uI I 414 q (nI 0)) 415 q (V t)) 384 44 (nI (q + 1)) = J1 by show _ = uI (uI (uI I 414 q (cdK c)) 415 q (cdV c)) 384 44 (nI (q + 1)); rw [c0, c1], e]
    simp only [bV_eq, if_true]
    rw [B_X12_unit_93]
  · obtain ⟨g1, g2, g3, g4, g5⟩ := gk_var j hj
    have c0 : cdK c = nI 1 := by rw [z2]; exact (cd_v.2 j hj).1
    have c1 : cdV c = nI j := by rw [z2]; exact (cd_v.2 j hj).2
    rw [c0, c1] at em
    have k0 : I 387 t = nI (33 + j) := kt.1.trans (by rw [z1, g1])
    rw [if_neg (show ¬ K t = nI 3 by rw [z1]; exact g5), if_pos rfl, B_X12_unit_29]
    simp only [gM G, if_true, true_and, h.2.2.1, not_true, if_false, h.2.1, x1, x1i, k0, g2, g3, g4, em, bV_eq]
    rw [show uI (uI (uI I 414 q (nI 1)) 415 q (nI j)) 384 44 (nI (q + 1)) = J1 by show _ = uI (uI (uI I 414 q (cdK c)) 415 q (cdV c)) 384 44 (nI (q + 1)); rw [c0, c1], e]
    simp only [bV_eq, if_true]
    rw [B_X12_unit_93]
theorem m_unit_no (d : Nat) {S : mS} {I : mI} {L : mJ} {K V P : Nat → Int32} (G : Gd S) (k : TKM I K V P) {t : Nat} (h : MS I K t) (h1 : ¬ K t = nI 3) (h2 : ¬ ∃ j, j < 9 ∧ K t = nI (141 + j)) : evM zcod (d + 3) 189 [.ref 384] (S, I, L) = some (none, (S, uI (uI I 384 13 (nI 1)) 384 14 (P t), L)) := by
  have x1 : zin (nI t) 403 = True := ixT (by have := h.1; omega) (by omega)
  have x1i : zix (nI t) = t := ixI (by have := h.1; omega)
  have kt := (k.1 t h.1 h.2.2.2).1
  have lo : gk (K t) < nI 33 := by
    obtain ⟨n, hn, e⟩ := k.2.1 t
    have l := kK_lt n hn
    rw [e, gk_nI l]
    apply gk_lo n hn
    by_cases c : n < 141
    · exact c
    · obtain ⟨j, hj, e2⟩ := kK_var n hn (by omega)
      exact absurd ⟨j, hj, by rw [e, e2]⟩ h2
  have e := m_fail (d + 1) (L := L) G k h (f := 1) (Or.inl rfl)
  rw [E_X12_unit, B_X12_unit_0]
  simp only [gM G, if_true, m_is2 (d + 1) (L := L) G k h, bI_eq, h1, if_false]
  rw [B_X12_unit_29]
  simp only [gM G, if_true, true_and, h.2.2.1, not_true, if_false, h.2.1, x1, x1i, kt, lo]
  rw [B_X12_unit_88]
  simp only [gM G, if_true, e, bV_eq]
  rw [B_X12_unit_93]
theorem m_unit_bad (d : Nat) {S : mS} {I : mI} {L : mJ} (G : Gd S) {P : Nat → Int32} {t f : Nat} (h : MF I P t f) : evM zcod (d + 3) 189 [.ref 384] (S, I, L) = some (none, (S, I, L)) := by
  rw [E_X12_unit, B_X12_unit_0]
  simp only [gM G, if_true, m_is_bad (d + 1) (L := L) G h.n0, bI_eq]
  rw [B_X12_unit_29]
  simp only [gM G, if_true, h.n0, not_false_iff]
  rw [B_X12_unit_88]
  simp only [gM G, if_true, m_fail_bad (d + 1) (L := L) G h.gt, bV_eq]
  rw [B_X12_unit_93]
theorem e23_no (d : Nat) {S : mS} {I : mI} {L : mJ} {K V P : Nat → Int32} (G : Gd S) (k : TKM I K V P) {t : Nat} (h : MS I K t) (h1 : ¬ K t = nI 40) : a23 S L (d + 3) I = evk zcod none (d + 3) zc_X12_expression 84 [(0, .ref 384), (1, .int (nI 0))] [] (S, I, L) := by
  unfold a23
  rw [B_X12_expression_23]
  simp only [gM G, if_true, m_is6 (d + 2) (L := L) G k h, bI_eq, h1, if_false]
theorem e84_ok (d : Nat) {S : mS} {I J : mI} {L : mJ} (G : Gd S) (e : evM zcod (d + 3) 189 [.ref 384] (S, I, L) = some (none, (S, J, L))) (h : J 384 13 = nI 0) : evk zcod none (d + 3) zc_X12_expression 84 [(0, .ref 384), (1, .int (nI 0))] [] (S, I, L) = a96 S L (d + 3) J := by
  rw [B_X12_expression_84]
  simp only [gM G, if_true, e, bV_eq, h, Int32.le_refl]
theorem e84_bad (d : Nat) {S : mS} {I J : mI} {L : mJ} (G : Gd S) (e : evM zcod (d + 3) 189 [.ref 384] (S, I, L) = some (none, (S, J, L))) (h : ¬ J 384 13 ≤ nI 0) : evk zcod none (d + 3) zc_X12_expression 84 [(0, .ref 384), (1, .int (nI 0))] [] (S, I, L) = some (none, (S, J, L)) := by
  rw [B_X12_expression_84]
  simp only [gM G, if_true, e, bV_eq, h, if_false]
/-- a ( -/
theorem e23_open (d : Nat) {S : mS} {I : mI} {L : mJ} {K V P : Nat → Int32} {B : Nat} (G : Gd S) (k : TKM I K V P) {t w : Nat} (h : MS I K t) (h1 : K t = nI 40) (hw : I 384 12 = nI w) (w6 : w ≤ 6) {W : List Int32} (h3 : I 384 48 = nI W.length) (h4 : W.length < 64) (h5 : WST I W) : ∃ J, Fi (exA B) I J ∧ (w < 6 → t < 400 → a23 S L (d + 3) I = a23 S L (d + 3) J ∧ MS J K (t + 1) ∧ J 384 12 = nI (w + 1) ∧ J 384 48 = nI (W.length + 1) ∧ WST J (nI 6 :: W) ∧ J 384 44 = I 384 44 ∧ (∀ q, BL I J q)) ∧ (w = 6 ∨ ¬ t < 400 → a23 S L (d + 3) I = some (none, (S, J, L)) ∧ MF J P t 2) := by
  have x2 : zin (nI W.length) 64 = True := ixT (by omega) (by omega)
  have x2i : zix (nI W.length) = W.length := ixI (by omega)
  have b46 : ∀ (I1 J1 : mI), evM zcod (d + 3) 170 [.ref 384] (S, uI I1 384 12 (I1 384 12 + nI 1), L) = some (none, (S, J1, L)) → J1 384 48 = nI W.length → evk zcod none (d + 3) zc_X12_expression 46 [(0, .ref 384), (1, .int (nI 0))] [] (S, I1, L) = a23 S L (d + 3) (uI (uI J1 416 W.length (nI 6)) 384 48 (nI (W.length + 1))) := by
    intro I1 J1 e q
    have q2 : uI J1 416 W.length (nI 6) 384 48 = nI W.length := (uI_off (by omega)).trans q
    rw [B_X12_expression_46]
    simp only [gM G, if_true, true_and, e, bV_eq, q, x2, x2i, q2, nI_add]
    rw [B_X12_expression_81]
  have bad : ∀ (J : mI), MF J P t 2 → a23 S L (d + 3) J = some (none, (S, J, L)) := by
    intro J q
    unfold a23
    rw [B_X12_expression_23]
    simp only [gM G, if_true, m_is_bad (d + 2) (L := L) G q.n0, bI_eq]
    exact e84_bad d G (m_unit_bad d G q) q.gt
  have to46 : w < 6 → a23 S L (d + 3) I = evk zcod none (d + 3) zc_X12_expression 46 [(0, .ref 384), (1, .int (nI 0))] [] (S, I, L) := by
    intro q
    have n6 : ¬ nI w = nI 6 := by rw [i_eq, t_nI (by omega), t_nI (by omega)]; omega
    unfold a23
    rw [B_X12_expression_23]
    simp only [gM G, if_true, m_is6 (d + 2) (L := L) G k h, bI_eq, h1, z10, if_false, hw, n6, not_false_iff]
  let I0 := uI I 384 12 (I 384 12 + nI 1)
  have f0 : Fi (exA B) I I0 := Fi.u Fi.rf (Or.inl ⟨rfl, by omega⟩)
  have hI0 : MS I0 K t := ⟨h.1, (uI_ix (by omega)).trans h.2.1, (uI_ix (by omega)).trans h.2.2.1, h.2.2.2⟩
  have kI0 := k.ex f0
  by_cases c : w < 6
  · by_cases ht : t < 400
    · have e := m_goesOn (d + 2) (L := L) G hI0 ht
      have q : uI I0 384 11 (nI (t + 1)) 384 48 = nI W.length := (uI_ix (by omega)).trans ((uI_ix (by omega)).trans h3)
      refine ⟨_, f0.tr (Fi.u (Fi.u (Fi.u (x := nI (t + 1)) (k := 11) (r := 384) Fi.rf (Or.inl ⟨rfl, by omega⟩)) (r := 416) (k := W.length) (x := nI 6) (Or.inr (Or.inr rfl))) (r := 384) (k := 48) (x := nI (W.length + 1)) (Or.inl ⟨rfl, by omega⟩)), fun _ _ => ⟨(to46 c).trans (b46 I _ e q), ?_, ?_, uI_same _ _ _ _, ⟨?_, ?_⟩, ?_, fun q => BL.of (fun j => ?_) (fun j => ?_) q⟩, fun z => absurd c (by omega)⟩
      · have m := hI0.go ht (by rw [h1]; decide +kernel)
        exact ⟨m.1, (uI_ix (by omega)).trans ((uI_off (by omega)).trans m.2.1), (uI_ix (by omega)).trans ((uI_off (by omega)).trans m.2.2.1), m.2.2.2⟩
      · rw [uI_ix (by omega), uI_off (by omega), uI_ix (by omega)]
        show uI I 384 12 (I 384 12 + nI 1) 384 12 = _
        rw [uI_same, hw, nI_add]
      · rw [uI_off (by omega), uI_same]
      · exact WST.cg h5 fun j hj => by
          rw [uI_off (by omega), uI_ix (by omega), uI_off (by omega)]
          exact uI_off (by omega)
      · rw [uI_ix (by omega), uI_off (by omega), uI_ix (by omega)]
        exact uI_ix (by omega)
      · rw [uI_off (by omega), uI_off (by omega), uI_off (by omega)]
        exact uI_off (by omega)
      · rw [uI_off (by omega), uI_off (by omega), uI_off (by omega)]
        exact uI_off (by omega)
    · have e := m_goesOn_full (d + 1) (L := L) G kI0 hI0 ht
      have q : uI (uI I0 384 13 (nI 2)) 384 14 (P t) 384 48 = nI W.length := (uI_ix (by omega)).trans ((uI_ix (by omega)).trans ((uI_ix (by omega)).trans h3))
      have m : MF (uI (uI (uI (uI I0 384 13 (nI 2)) 384 14 (P t)) 416 W.length (nI 6)) 384 48 (nI (W.length + 1))) P t 2 := (mf_of (K := K) (I := I0) (Or.inr rfl)).cg ((uI_ix (by omega)).trans (uI_off (by omega))) ((uI_ix (by omega)).trans (uI_off (by omega)))
      refine ⟨_, f0.tr (Fi.u (Fi.u (Fi.u (Fi.u (x := nI 2) (k := 13) (r := 384) Fi.rf (Or.inl ⟨rfl, by omega⟩)) (r := 384) (k := 14) (x := P t) (Or.inl ⟨rfl, by omega⟩)) (r := 416) (k := W.length) (x := nI 6) (Or.inr (Or.inr rfl))) (r := 384) (k := 48) (x := nI (W.length + 1)) (Or.inl ⟨rfl, by omega⟩)), fun _ z => absurd z ht, fun _ => ⟨((to46 c).trans (b46 I _ e q)).trans (bad _ m), m⟩⟩
  · have w6' : w = 6 := by omega
    subst w6'
    have e0 := m_fail (d + 2) (L := L) G k h (f := 2) (Or.inr rfl)
    let I1 := uI (uI I 384 13 (nI 2)) 384 14 (P t)
    have m1 : MF I1 P t 2 := mf_of (K := K) (Or.inr rfl)
    have f1 : Fi (exA B) I I1 := Fi.u (Fi.u Fi.rf (Or.inl ⟨rfl, by omega⟩)) (Or.inl ⟨rfl, by omega⟩)
    let I2 := uI I1 384 12 (I1 384 12 + nI 1)
    have m2 : MF I2 P t 2 := m1.cg (uI_ix (by omega)) (uI_ix (by omega))
    obtain ⟨J, e, f⟩ := m_goesOn_bad (d + 1) (L := L) G m2.gt
    have m3 : MF J P t 2 := m2.cg (f _ _ (by omega)) (f _ _ (by omega))
    have q : J 384 48 = nI W.length := (f _ _ (by omega)).trans ((uI_ix (by omega)).trans ((uI_ix (by omega)).trans ((uI_ix (by omega)).trans h3)))
    have m : MF (uI (uI J 416 W.length (nI 6)) 384 48 (nI (W.length + 1))) P t 2 := m3.cg ((uI_ix (by omega)).trans (uI_off (by omega))) ((uI_ix (by omega)).trans (uI_off (by omega)))
    refine ⟨_, (f1.tr (Fi.u (x := I1 384 12 + nI 1) (k := 12) (r := 384) Fi.rf (Or.inl ⟨rfl, by omega⟩))).tr ((f.up fun _ _ z => Or.inl ⟨z.1, by omega⟩).tr (Fi.u (Fi.u Fi.rf (r := 416) (k := W.length) (x := nI 6) (Or.inr (Or.inr rfl))) (r := 384) (k := 48) (x := nI (W.length + 1)) (Or.inl ⟨rfl, by omega⟩))), fun z => absurd z c, fun _ => ⟨?_, m⟩⟩
    refine Eq.trans ?_ (bad _ m)
    refine Eq.trans ?_ (b46 I1 J e q)
    unfold a23
    rw [B_X12_expression_23]
    simp only [gM G, if_true, m_is6 (d + 2) (L := L) G k h, bI_eq, h1, z10, if_false, hw, not_true, e0, bV_eq]
    rfl
