/-! reading, reference side: how its machine goes on in an expression -/
def exA (B a j : Nat) : Prop := a = 384 ∧ (11 ≤ j ∧ j ≤ 14 ∨ j = 44 ∨ j = 48) ∨ (a = 414 ∨ a = 415) ∧ (B ≤ j ∧ j < B + 420) ∨ a = 416
theorem oxA_ex {B a j : Nat} (h : oxA B a j) : exA B a j := by unfold oxA at h; unfold exA; omega
theorem emA_ex {B a j : Nat} (h : emA B a j) : exA B a j := by unfold emA at h; unfold exA; omega
theorem TKM.ex {I J : mI} {K V P : Nat → Int32} {B : Nat} (h : TKM I K V P) (f : Fi (exA B) I J) : TKM J K V P := h.cg fun a p q j => f a j (by unfold exA; omega)
noncomputable abbrev a23 (S : mS) (L : mJ) (D : Nat) (I : mI) : Option (Option Value × zM) := evk zcod none D zc_X12_expression 23 [(0, .ref 384), (1, .int (nI 0))] [] (S, I, L)
noncomputable abbrev a96 (S : mS) (L : mJ) (D : Nat) (I : mI) : Option (Option Value × zM) := evk zcod none D zc_X12_expression 96 [(0, .ref 384), (1, .int (nI 0))] [] (S, I, L)
theorem is_6 : (40 ∈ kKs ∧ gkN 40 = 6) ∧ (41 ∈ kKs ∧ gkN 41 = 7) ∧ (43 ∈ kKs ∧ gkN 43 = 8) ∧ (45 ∈ kKs ∧ gkN 45 = 9) ∧ (42 ∈ kKs ∧ gkN 42 = 10) ∧ (47 ∈ kKs ∧ gkN 47 = 15) ∧ (3 ∈ kKs ∧ gkN 3 = 2) := by decide +kernel
theorem z10 : ¬ nI 1 = nI 0 := by decide +kernel
theorem m_is6 (d : Nat) {S : mS} {I : mI} {L : mJ} {K V P : Nat → Int32} (G : Gd S) (k : TKM I K V P) {t : Nat} (h : MS I K t) : evM zcod (d + 1) 167 [.ref 384, .int (nI 6)] (S, I, L) = some (some (.int (if K t = nI 40 then nI 1 else nI 0)), (S, I, L)) := m_is d G k h 40 is_6.1.1 is_6.1.2
theorem m_is7 (d : Nat) {S : mS} {I : mI} {L : mJ} {K V P : Nat → Int32} (G : Gd S) (k : TKM I K V P) {t : Nat} (h : MS I K t) : evM zcod (d + 1) 167 [.ref 384, .int (nI 7)] (S, I, L) = some (some (.int (if K t = nI 41 then nI 1 else nI 0)), (S, I, L)) := m_is d G k h 41 is_6.2.1.1 is_6.2.1.2
theorem m_is8 (d : Nat) {S : mS} {I : mI} {L : mJ} {K V P : Nat → Int32} (G : Gd S) (k : TKM I K V P) {t : Nat} (h : MS I K t) : evM zcod (d + 1) 167 [.ref 384, .int (nI 8)] (S, I, L) = some (some (.int (if K t = nI 43 then nI 1 else nI 0)), (S, I, L)) := m_is d G k h 43 is_6.2.2.1.1 is_6.2.2.1.2
theorem m_is9' (d : Nat) {S : mS} {I : mI} {L : mJ} {K V P : Nat → Int32} (G : Gd S) (k : TKM I K V P) {t : Nat} (h : MS I K t) : evM zcod (d + 1) 167 [.ref 384, .int (nI 9)] (S, I, L) = some (some (.int (if K t = nI 45 then nI 1 else nI 0)), (S, I, L)) := m_is d G k h 45 is_6.2.2.2.1.1 is_6.2.2.2.1.2
theorem m_is10 (d : Nat) {S : mS} {I : mI} {L : mJ} {K V P : Nat → Int32} (G : Gd S) (k : TKM I K V P) {t : Nat} (h : MS I K t) : evM zcod (d + 1) 167 [.ref 384, .int (nI 10)] (S, I, L) = some (some (.int (if K t = nI 42 then nI 1 else nI 0)), (S, I, L)) := m_is d G k h 42 is_6.2.2.2.2.1.1 is_6.2.2.2.2.1.2
theorem m_is15 (d : Nat) {S : mS} {I : mI} {L : mJ} {K V P : Nat → Int32} (G : Gd S) (k : TKM I K V P) {t : Nat} (h : MS I K t) : evM zcod (d + 1) 167 [.ref 384, .int (nI 15)] (S, I, L) = some (some (.int (if K t = nI 47 then nI 1 else nI 0)), (S, I, L)) := m_is d G k h 47 is_6.2.2.2.2.2.1.1 is_6.2.2.2.2.2.1.2
theorem m_is2 (d : Nat) {S : mS} {I : mI} {L : mJ} {K V P : Nat → Int32} (G : Gd S) (k : TKM I K V P) {t : Nat} (h : MS I K t) : evM zcod (d + 1) 167 [.ref 384, .int (nI 2)] (S, I, L) = some (some (.int (if K t = nI 3 then nI 1 else nI 0)), (S, I, L)) := m_is d G k h 3 is_6.2.2.2.2.2.2.1 is_6.2.2.2.2.2.2.2
/-- behind a unit, no ) that counts: is there an operator -/
theorem e96_no (d : Nat) {S : mS} {I : mI} {L : mJ} {K V P : Nat → Int32} (G : Gd S) (k : TKM I K V P) {t : Nat} (h : MS I K t) (hc : ¬ K t = nI 41 ∨ I 384 12 = nI 0) : a96 S L (d + 3) I = evk zcod none (d + 3) zc_X12_expression 145 [(0, .ref 384), (1, .int (nI 0))] [] (S, I, L) := by
  unfold a96
  rw [B_X12_expression_96]
  simp only [gM G, if_true, m_is7 (d + 2) (L := L) G k h, bI_eq]
  by_cases c : K t = nI 41
  · have q := hc.resolve_left fun z => z c
    rw [if_pos c, if_neg z10, q, if_pos (Int32.le_refl _)]
  · rw [if_neg c, if_pos rfl]
theorem e145_no (d : Nat) {S : mS} {I : mI} {L : mJ} {K V P : Nat → Int32} (G : Gd S) (k : TKM I K V P) {t : Nat} (h : MS I K t) (h1 : ¬ isTd K t) (h2 : ¬ isPm K t) : evk zcod none (d + 3) zc_X12_expression 145 [(0, .ref 384), (1, .int (nI 0))] [] (S, I, L) = evk zcod none (d + 3) zc_X12_expression 186 [(0, .ref 384), (1, .int (nI 0))] [.int (nI 0)] (S, I, L) := by
  have c1 : ¬ K t = nI 42 := fun z => h1 (Or.inl z)
  have c2 : ¬ K t = nI 47 := fun z => h1 (Or.inr z)
  have c3 : ¬ K t = nI 43 := fun z => h2 (Or.inl z)
  have c4 : ¬ K t = nI 45 := fun z => h2 (Or.inr z)
  rw [B_X12_expression_145]
  simp only [gM G, if_true, m_is8 (d + 2) (L := L) G k h, m_is9' (d + 2) (L := L) G k h, m_is10 (d + 2) (L := L) G k h, m_is15 (d + 2) (L := L) G k h, bI_eq, c1, c2, c3, c4, if_false, not_true]
  rw [B_X12_expression_185]
theorem e145_op (d : Nat) {S : mS} {I : mI} {L : mJ} {K V P : Nat → Int32} (G : Gd S) (k : TKM I K V P) {t : Nat} (h : MS I K t) (h1 : isTd K t ∨ isPm K t) : evk zcod none (d + 3) zc_X12_expression 145 [(0, .ref 384), (1, .int (nI 0))] [] (S, I, L) = evk zcod none (d + 3) zc_X12_expression 210 [(0, .ref 384), (1, .int (nI 0)), (2, .int (nI 1))] [] (S, I, L) := by
  have fin : evk zcod none (d + 3) zc_X12_expression 181 [(0, .ref 384), (1, .int (nI 0))] [] (S, I, L) = evk zcod none (d + 3) zc_X12_expression 210 [(0, .ref 384), (1, .int (nI 0)), (2, .int (nI 1))] [] (S, I, L) := by
    rw [B_X12_expression_181, B_X12_expression_186, if_pos z10]
  rw [B_X12_expression_145]
  simp only [gM G, if_true, m_is8 (d + 2) (L := L) G k h, m_is9' (d + 2) (L := L) G k h, m_is10 (d + 2) (L := L) G k h, m_is15 (d + 2) (L := L) G k h, bI_eq]
  by_cases c3 : K t = nI 43
  · rw [if_pos c3, if_pos z10, fin]
  · rw [if_neg c3, if_neg (fun q => q rfl)]
    by_cases c4 : K t = nI 45
    · rw [if_pos c4, if_pos z10, fin]
    · rw [if_neg c4, if_neg (fun q => q rfl)]
      by_cases c1 : K t = nI 42
      · rw [if_pos c1, if_pos z10, fin]
      · rw [if_neg c1, if_neg (fun q => q rfl)]
        have c2 : K t = nI 47 := by
          rcases h1 with (z | z) | (z | z)
          · exact absurd z c1
          · exact z
          · exact absurd z c3
          · exact absurd z c4
        rw [if_pos c2, if_neg z10, fin]
theorem e210 (d : Nat) {S : mS} {I : mI} {L : mJ} {K V P : Nat → Int32} (G : Gd S) (k : TKM I K V P) {t : Nat} (h : MS I K t) : evk zcod none (d + 3) zc_X12_expression 210 [(0, .ref 384), (1, .int (nI 0)), (2, .int (nI 1))] [] (S, I, L) = evk zcod none (d + 3) zc_X12_expression 234 [(0, .ref 384), (1, .int (nI 0)), (2, .int (nI 1))] [.int (if K t = nI 42 ∨ K t = nI 47 then nI 1 else nI 0), .ref 384] (S, I, L) := by
  rw [B_X12_expression_210]
  simp only [gM G, if_true, m_is10 (d + 2) (L := L) G k h, m_is15 (d + 2) (L := L) G k h, bI_eq]
  by_cases c1 : K t = nI 42
  · rw [if_pos c1, if_pos z10, if_pos (Or.inl c1), B_X12_expression_229]
  · rw [if_neg c1, if_neg (fun q => q rfl)]
    by_cases c2 : K t = nI 47
    · rw [if_pos c2, if_neg z10, if_pos (Or.inr c2), B_X12_expression_229]
    · rw [if_neg c2, if_pos rfl, if_neg (fun z => z.elim c1 c2), B_X12_expression_233]
/-- an operator: what waits and is as strong comes out, it waits itself -/
theorem e234 (d : Nat) {S : mS} {I : mI} {L : mJ} {K V P : Nat → Int32} {B : Nat} (G : Gd S) (k : TKM I K V P) {t : Nat} (h : MS I K t) {s : Int32} (pend W : List Int32) (q : Nat) (h1 : I 384 44 = nI q) (h2 : q + pend.length ≤ 840 ∧ B ≤ q ∧ q + pend.length ≤ B + 420) (h3 : I 384 48 = nI (pend ++ W).length) (h4 : (pend ++ W).length < 63) (h5 : WST I (pend ++ W)) (h6 : ∀ w, w ∈ pend → isOp w ∧ (s = nI 0 ∨ ¬ w = nI 8 ∧ ¬ w = nI 9)) (h7 : stops s W) (hk : ¬ K t = nI 0) : ∃ J, Fi (exA B) I J ∧ (t < 400 → evk zcod none (d + 3) zc_X12_expression 234 [(0, .ref 384), (1, .int (nI 0)), (2, .int (nI 1))] [.int s, .ref 384] (S, I, L) = a23 S L (d + 3) J ∧ MS J K (t + 1) ∧ J 384 12 = I 384 12 ∧ WST J (gk (K t) :: W) ∧ J 384 48 = nI (W.length + 1) ∧ J 384 44 = nI (q + pend.length) ∧ CM J q (pend.map opc) ∧ BL I J q) ∧ (¬ t < 400 → evk zcod none (d + 3) zc_X12_expression 234 [(0, .ref 384), (1, .int (nI 0)), (2, .int (nI 1))] [.int s, .ref 384] (S, I, L) = some (none, (S, J, L)) ∧ MF J P t 2) := by
  have lW : W.length ≤ (pend ++ W).length := by rw [List.length_append]; omega
  obtain ⟨J1, e1, f1, a1, a2, a3, a4⟩ := m_comesOut (d + 1) (L := L) (B := B) G pend W q h1 h2 h3 (by omega) h5 h6 h7
  have hJ1 : MS J1 K t := ⟨h.1, (f1 _ _ (by unfold oxA; omega)).trans h.2.1, (f1 _ _ (by unfold oxA; omega)).trans h.2.2.1, h.2.2.2⟩
  have kt : J1 387 t = gk (K t) := (f1 _ _ (by unfold oxA; omega)).trans (k.1 t h.1 h.2.2.2).1
  let J2 := uI (uI J1 416 W.length (gk (K t))) 384 48 (nI (W.length + 1))
  have f2 : Fi (exA B) J1 J2 := Fi.u (Fi.u Fi.rf (Or.inr (Or.inr rfl))) (Or.inl ⟨rfl, by omega⟩)
  have hJ2 : MS J2 K t := ⟨h.1, (uI_ix (by omega)).trans ((uI_off (by omega)).trans hJ1.2.1), (uI_ix (by omega)).trans ((uI_off (by omega)).trans hJ1.2.2.1), h.2.2.2⟩
  have f12 : Fi (exA B) I J2 := (f1.up fun _ _ => oxA_ex).tr f2
  have kJ2 := k.ex f12
  have w48 : uI J1 416 W.length (gk (K t)) 384 48 = nI W.length := (uI_off (by omega)).trans a2
  have x1 : zin (nI t) 403 = True := ixT (by have := h.1; omega) (by omega)
  have x1i : zix (nI t) = t := ixI (by have := h.1; omega)
  have x2 : zin (nI W.length) 64 = True := ixT (by omega) (by omega)
  have x2i : zix (nI W.length) = W.length := ixI (by omega)
  have ws : WST J2 (gk (K t) :: W) := ⟨(uI_off (by omega)).trans (uI_same _ _ _ _), WST.cg (WST.cg (by
    have : ∀ (p : List Int32), WST I (p ++ W) → WST I W := fun p => by
      induction p with
      | nil => exact id
      | cons x p ih => exact fun z => ih z.2
    exact this pend h5) fun j _ => f1 416 j (by unfold oxA; omega)) fun j hj => (uI_off (by omega)).trans (uI_ix (by omega))⟩
  by_cases ht : t < 400
  · have e2 := m_goesOn (d + 2) (L := L) G hJ2 ht
    refine ⟨uI J2 384 11 (nI (t + 1)), f12.tr (Fi.u Fi.rf (Or.inl ⟨rfl, by omega⟩)), fun _ => ⟨?_, hJ2.go ht hk, ?_, ws.cg fun j _ => uI_off (by omega), ?_, ?_, ?_, ?_⟩, fun z => absurd ht z⟩
    · rw [B_X12_expression_234]
      simp only [gM G, if_true, true_and, e1, bV_eq, hJ1.2.1, x1, x1i, kt, a2, x2, x2i, w48, nI_add]
      rw [show uI (uI J1 416 W.length (gk (K t))) 384 48 (nI (W.length + 1)) = J2 from rfl, e2]
      simp only [bV_eq, if_true]
      rw [B_X12_expression_269, B_X12_expression_12]
      simp only [z10, if_false, gM G, if_true]
      rw [show uI J2 384 11 (nI (t + 1)) 384 13 = nI 0 from (uI_ix (by omega)).trans hJ2.2.2.1, if_neg (fun q => q rfl)]
    · rw [uI_ix (by omega)]
      exact (uI_ix (by omega)).trans ((uI_off (by omega)).trans (f1 384 12 (by unfold oxA; omega)))
    · rw [uI_ix (by omega)]
      exact uI_same _ _ _ _
    · rw [uI_ix (by omega)]
      exact (uI_ix (by omega)).trans ((uI_off (by omega)).trans a1)
    · exact a3.cg (fun j => (uI_off (by omega)).trans ((uI_off (by omega)).trans (uI_off (by omega)))) (fun j => (uI_off (by omega)).trans ((uI_off (by omega)).trans (uI_off (by omega))))
    · exact a4.tr (BL.of (fun j => (uI_off (by omega)).trans ((uI_off (by omega)).trans (uI_off (by omega)))) (fun j => (uI_off (by omega)).trans ((uI_off (by omega)).trans (uI_off (by omega)))) q) (Nat.le_refl _)
  · have e2 := m_goesOn_full (d + 1) (L := L) G kJ2 hJ2 ht
    refine ⟨_, f12.tr (Fi.u (Fi.u (x := nI 2) Fi.rf (Or.inl ⟨rfl, by omega⟩)) (Or.inl ⟨rfl, by omega⟩)), fun z => absurd z ht, fun _ => ⟨?_, mf_of (K := K) (Or.inr rfl)⟩⟩
    rw [B_X12_expression_234]
    simp only [gM G, if_true, true_and, e1, bV_eq, hJ1.2.1, x1, x1i, kt, a2, x2, x2i, w48, nI_add]
    rw [show uI (uI J1 416 W.length (gk (K t))) 384 48 (nI (W.length + 1)) = J2 from rfl, e2]
    simp only [bV_eq, if_true]
    have n0 : ¬ uI (uI J2 384 13 (nI 2)) 384 14 (P t) 384 13 = nI 0 := (mf_of (I := J2) (K := K) (P := P) (t := t) (Or.inr rfl)).n0
    rw [B_X12_expression_269, B_X12_expression_12]
    simp only [z10, if_false, gM G, if_true, n0, not_false_iff]
    rw [B_X12_expression_272]
/-- with a fault, behind a unit: all ends -/
theorem e96_bad (d : Nat) {S : mS} {I : mI} {L : mJ} {P : Nat → Int32} {B : Nat} (G : Gd S) {t f : Nat} (h : MF I P t f) (W : List Int32) (q : Nat) (h1 : I 384 44 = nI q) (h2 : q + W.length ≤ 840 ∧ B ≤ q ∧ q + W.length ≤ B + 420) (h3 : I 384 48 = nI W.length) (h4 : W.length < 64) (h5 : WST I W) (h6 : ∀ w, w ∈ W → isOp w ∨ w = nI 6) : ∃ J, a96 S L (d + 3) I = some (none, (S, J, L)) ∧ Fi (exA B) I J ∧ MF J P t f := by
  obtain ⟨J, e, fj⟩ := m_comesAny (d + 1) (L := L) (B := B) G W q h1 h2 h3 h4 h5 h6
  refine ⟨J, ?_, fj.up fun _ _ => oxA_ex, h.cg (fj _ _ (by unfold oxA; omega)) (fj _ _ (by unfold oxA; omega))⟩
  have i := fun x => m_is_bad (d + 2) (L := L) G h.n0 x
  unfold a96
  have e204 : evk zcod none (d + 3) zc_X12_expression 204 [(0, .ref 384)] [] (S, I, L) = some (none, (S, J, L)) := by
    rw [B_X12_expression_204]
    simp only [gM G, if_true, e, bV_eq]
  rw [B_X12_expression_96]
  simp only [gM G, if_true, i, bI_eq]
  rw [B_X12_expression_145]
  simp only [gM G, if_true, i, bI_eq, not_true, if_false]
  rw [B_X12_expression_185, B_X12_expression_186, if_neg (fun q => q rfl)]
  simp only [gM G, if_true, m_fail_bad (d + 2) (L := L) G h.gt, bV_eq, e204, ite_self]
