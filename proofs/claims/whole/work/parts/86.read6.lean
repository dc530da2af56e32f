/-! reading, reference side: an expression as it is told by PX -/
theorem WST.drop {I : mI} {W : List Int32} : ∀ {p : List Int32}, WST I (p ++ W) → WST I W
  | [], h => h
  | _ :: _, h => WST.drop h.2
theorem gk_ops : gk (nI 42) = nI 10 ∧ gk (nI 47) = nI 15 ∧ gk (nI 43) = nI 8 ∧ gk (nI 45) = nI 9 := by decide +kernel
theorem opc_of : opc (nI 8) = -1 ∧ opc (nI 9) = -2 ∧ opc (nI 10) = -3 ∧ opc (nI 15) = -4 := by decide +kernel
/-- a ) behind a unit -/
theorem e96_close (d : Nat) {S : mS} {I : mI} {L : mJ} {K V P : Nat → Int32} {B : Nat} (G : Gd S) (k : TKM I K V P) {t w : Nat} (h : MS I K t) (h1 : K t = nI 41) (hw : I 384 12 = nI (w + 1)) (w6 : w < 6) (pend W : List Int32) (q : Nat) (c1 : I 384 44 = nI q) (c2 : q + pend.length + W.length ≤ 840 ∧ B ≤ q ∧ q + pend.length + W.length ≤ B + 420) (c3 : I 384 48 = nI (pend ++ nI 6 :: W).length) (c4 : (pend ++ nI 6 :: W).length < 64) (c5 : WST I (pend ++ nI 6 :: W)) (c6 : ∀ w, w ∈ pend → isOp w) (c7 : ∀ w, w ∈ W → isOp w ∨ w = nI 6) : ∃ J, Fi (exA B) I J ∧ (t < 400 → a96 S L (d + 3) I = a96 S L (d + 3) J ∧ MS J K (t + 1) ∧ J 384 12 = nI w ∧ J 384 48 = nI W.length ∧ WST J W ∧ J 384 44 = nI (q + pend.length) ∧ CM J q (pend.map opc) ∧ BL I J q) ∧ (¬ t < 400 → a96 S L (d + 3) I = some (none, (S, J, L)) ∧ MF J P t 2) := by
  have lW : (pend ++ nI 6 :: W).length = pend.length + (W.length + 1) := by rw [List.length_append]; rfl
  obtain ⟨J1, e1, f1, a1, a2, a3, a4⟩ := m_comesOut (d + 1) (L := L) (B := B) G pend (nI 6 :: W) q c1 (by omega) c3 c4 c5 (fun w hw => ⟨c6 w hw, Or.inl rfl⟩) (fun x W' e => by cases e; exact Or.inl rfl)
  have hp : ¬ nI (w + 1) ≤ nI 0 := nI_ge (by omega) (by omega)
  have a2' : J1 384 48 = nI (W.length + 1) := a2
  have w12 : J1 384 12 = nI (w + 1) := (f1 _ _ (by unfold oxA; omega)).trans hw
  let J2 := uI (uI J1 384 48 (nI W.length)) 384 12 (nI w)
  have m1 : nI (W.length + 1) - nI 1 = nI W.length := by rw [pk_sub (by omega), show W.length + 1 - 1 = W.length by omega]
  have m2 : nI (w + 1) - nI 1 = nI w := by rw [pk_sub (by omega), show w + 1 - 1 = w by omega]
  have w12' : uI J1 384 48 (nI W.length) 384 12 = nI (w + 1) := (uI_ix (by omega)).trans w12
  have f2 : Fi (exA B) J1 J2 := Fi.u (Fi.u Fi.rf (Or.inl ⟨rfl, by omega⟩)) (Or.inl ⟨rfl, by omega⟩)
  have f12 := (f1.up fun _ _ => oxA_ex).tr f2
  have hJ2 : MS J2 K t := ⟨h.1, (uI_ix (by omega)).trans ((uI_ix (by omega)).trans ((f1 _ _ (by unfold oxA; omega)).trans h.2.1)), (uI_ix (by omega)).trans ((uI_ix (by omega)).trans ((f1 _ _ (by unfold oxA; omega)).trans h.2.2.1)), h.2.2.2⟩
  have ws : WST J2 W := WST.cg (WST.drop (p := [nI 6]) (WST.drop c5)) fun j _ => (uI_off (by omega)).trans ((uI_off (by omega)).trans (f1 416 j (by unfold oxA; omega)))
  have e138 : a96 S L (d + 3) I = evk zcod none (d + 3) zc_X12_expression 138 [(0, .ref 384), (1, .int (nI 0))] [] (S, J2, L) := by
    unfold a96
    rw [B_X12_expression_96]
    simp only [gM G, if_true, m_is7 (d + 2) (L := L) G k h, bI_eq, h1, z10, if_false, hw, hp, e1, bV_eq, a2', m1, w12', m2]
    rfl
  by_cases ht : t < 400
  · have e2 := m_goesOn (d + 2) (L := L) G hJ2 ht
    refine ⟨_, f12.tr (Fi.u (x := nI (t + 1)) (k := 11) (r := 384) Fi.rf (Or.inl ⟨rfl, by omega⟩)), fun _ => ⟨?_, hJ2.go ht (by rw [h1]; decide +kernel), ?_, ?_, ws.cg fun j _ => uI_off (by omega), ?_, ?_, ?_⟩, fun z => absurd ht z⟩
    · rw [e138, B_X12_expression_138]
      simp only [gM G, if_true, e2, bV_eq]
    · rw [uI_ix (by omega)]
      exact uI_same _ _ _ _
    · rw [uI_ix (by omega)]
      exact (uI_ix (by omega)).trans (uI_same _ _ _ _)
    · rw [uI_ix (by omega)]
      exact (uI_ix (by omega)).trans ((uI_ix (by omega)).trans a1)
    · exact a3.cg (fun j => (uI_off (by omega)).trans ((uI_off (by omega)).trans (uI_off (by omega)))) (fun j => (uI_off (by omega)).trans ((uI_off (by omega)).trans (uI_off (by omega))))
    · exact a4.tr (BL.of (fun j => (uI_off (by omega)).trans ((uI_off (by omega)).trans (uI_off (by omega)))) (fun j => (uI_off (by omega)).trans ((uI_off (by omega)).trans (uI_off (by omega)))) q) (Nat.le_refl _)
  · have e2 := m_goesOn_full (d + 1) (L := L) G (k.ex f12) hJ2 ht
    let J3 := uI (uI J2 384 13 (nI 2)) 384 14 (P t)
    have m3 : MF J3 P t 2 := mf_of (K := K) (Or.inr rfl)
    obtain ⟨J, e3, f3, m4⟩ := e96_bad d (L := L) (B := B) G m3 W (q + pend.length) ((uI_ix (by omega)).trans ((uI_ix (by omega)).trans ((uI_ix (by omega)).trans ((uI_ix (by omega)).trans a1)))) (by omega) ((uI_ix (by omega)).trans ((uI_ix (by omega)).trans ((uI_ix (by omega)).trans (uI_same _ _ _ _)))) (by omega) (ws.cg fun j _ => (uI_off (by omega)).trans (uI_off (by omega))) c7
    refine ⟨J, f12.tr ((Fi.u (Fi.u (x := nI 2) (k := 13) (r := 384) Fi.rf (Or.inl ⟨rfl, by omega⟩)) (r := 384) (k := 14) (x := P t) (Or.inl ⟨rfl, by omega⟩)).tr f3), fun z => absurd z ht, fun _ => ⟨?_, m4⟩⟩
    rw [e138, B_X12_expression_138]
    simp only [gM G, if_true, e2, bV_eq]
    exact e3
/-- behind a unit within ( ): neither an operator nor a ) -/
theorem e96_fail (d : Nat) {S : mS} {I : mI} {L : mJ} {K V P : Nat → Int32} {B : Nat} (G : Gd S) (k : TKM I K V P) {t w : Nat} (h : MS I K t) (h1 : ¬ K t = nI 41) (h2 : ¬ isTd K t) (h3 : ¬ isPm K t) (hw : I 384 12 = nI (w + 1)) (w6 : w < 6) (W : List Int32) (q : Nat) (c1 : I 384 44 = nI q) (c2 : q + W.length ≤ 840 ∧ B ≤ q ∧ q + W.length ≤ B + 420) (c3 : I 384 48 = nI W.length) (c4 : W.length < 64) (c5 : WST I W) (c7 : ∀ w, w ∈ W → isOp w ∨ w = nI 6) : ∃ J, a96 S L (d + 3) I = some (none, (S, J, L)) ∧ Fi (exA B) I J ∧ MF J P t 1 := by
  have e1 := m_fail (d + 2) (L := L) G k h (f := 1) (Or.inl rfl)
  let J1 := uI (uI I 384 13 (nI 1)) 384 14 (P t)
  have m1 : MF J1 P t 1 := mf_of (K := K) (Or.inl rfl)
  obtain ⟨J, e, f⟩ := m_comesAny (d + 1) (L := L) (B := B) G (I := J1) W q ((uI_ix (by omega)).trans ((uI_ix (by omega)).trans c1)) c2 ((uI_ix (by omega)).trans ((uI_ix (by omega)).trans c3)) c4 (c5.cg fun j _ => (uI_off (by omega)).trans (uI_off (by omega))) c7
  have hp : ¬ nI (w + 1) ≤ nI 0 := nI_ge (by omega) (by omega)
  refine ⟨J, ?_, (Fi.u (Fi.u (x := nI 1) (k := 13) (r := 384) Fi.rf (Or.inl ⟨rfl, by omega⟩)) (r := 384) (k := 14) (x := P t) (Or.inl ⟨rfl, by omega⟩)).tr (f.up fun _ _ => oxA_ex), m1.cg (f _ _ (by unfold oxA; omega)) (f _ _ (by unfold oxA; omega))⟩
  rw [e96_no d G k h (Or.inl h1), e145_no d G k h h2 h3, B_X12_expression_186, if_neg (fun q => q rfl)]
  simp only [gM G, if_true, hw, hp, if_false, e1, bV_eq]
  rw [B_X12_expression_204]
  simp only [gM G, if_true]
  rw [show uI (uI I 384 13 (nI 1)) 384 14 (P t) = J1 from rfl, e]
  simp only [bV_eq, if_true]
/-! what is kept by each of the ways -/
def wbd : Nat → Nat
  | 0 => 2
  | 1 => 1
  | 2 => 1
  | _ => 0
def wOK : Nat → List Int32 → Prop
  | 0, _ => True
  | 1, W => stops (nI 1) W
  | 2, W => stops (nI 1) W
  | _, W => stops (nI 0) W
def pOK : Nat → List Int32 → Prop
  | 0, p => p = []
  | 1, p => (∀ w, w ∈ p → w = nI 10 ∨ w = nI 15) ∧ p.length ≤ 1
  | 2, p => (∀ w, w ∈ p → w = nI 10 ∨ w = nI 15) ∧ p.length ≤ 1
  | _, p => (∀ w, w ∈ p → isOp w) ∧ p.length ≤ 2
noncomputable def startX (S : mS) (L : mJ) (D : Nat) (I : mI) : Nat → Option (Option Value × zM)
  | 2 => a96 S L D I
  | 4 => a96 S L D I
  | _ => a23 S L D I
def XEnd (S : mS) (L : mJ) (K P : Nat → Int32) (B D : Nat) (X : Option (Option Value × zM)) (I : mI) (g w q : Nat) (W : List Int32) : mRes → Prop
  | Sum.inr (t', f) => ∃ J, X = some (none, (S, J, L)) ∧ Fi (exA B) I J ∧ MF J P t' f
  | Sum.inl (t', o) => ∃ J pend e, X = a96 S L D J ∧ Fi (exA B) I J ∧ MS J K t' ∧ J 384 12 = nI w ∧ J 384 48 = nI (pend ++ W).length ∧ WST J (pend ++ W) ∧ J 384 44 = nI (q + e.length) ∧ CM J q e ∧ BL I J q ∧ o = e ++ pend.map opc ∧ pOK g pend
theorem XEnd.pre {S : mS} {L : mJ} {K P : Nat → Int32} {B D : Nat} {X Y : Option (Option Value × zM)} {I J : mI} {g g' w q : Nat} {W : List Int32} {r : mRes} (h : XEnd S L K P B D Y J g w q W r) (e : X = Y) (f : Fi (exA B) I J) (b : BL I J q) (hg : ∀ p, pOK g p → pOK g' p) : XEnd S L K P B D X I g' w q W r := by
  match r, h with
  | Sum.inr (t', f'), h =>
    obtain ⟨K1, e1, f1, m1⟩ := h
    exact ⟨K1, e.trans e1, f.tr f1, m1⟩
  | Sum.inl (t', o), h =>
    obtain ⟨K1, pend, e', e1, f1, a1, a2, a3, a4, a5, a6, a7, a8, a9⟩ := h
    exact ⟨K1, pend, e', e.trans e1, f.tr f1, a1, a2, a3, a4, a5, a6, b.tr a7 (Nat.le_refl _), a8, hg pend a9⟩
def SP (S : mS) (L : mJ) (K V P : Nat → Int32) (B : Nat) (g w t : Nat) (a : List Int32) (r : mRes) : Prop := ∀ (d : Nat) (I : mI) (q : Nat) (W e pend : List Int32), w ≤ 6 → TKM I K V P → MS I K t → I 384 12 = nI w → I 384 48 = nI (pend ++ W).length → WST I (pend ++ W) → I 384 44 = nI (q + e.length) → CM I q e → B ≤ q ∧ q + a.length + W.length ≤ B + t → W.length ≤ 3 * w + wbd g → (∀ x, x ∈ W → isOp x ∨ x = nI 6) → wOK g W → a = e ++ pend.map opc → pOK g pend → (g = 0 ∨ g = 1 ∨ g = 3 → pend = []) → XEnd S L K P B (d + 3) (startX S L (d + 3) I g) I g w q W r
theorem no_e {e pend : List Int32} (h : [] = e ++ pend.map opc) : e = [] ∧ pend = [] := by
  have := congrArg List.length h
  rw [List.length_append, List.length_map] at this
  have l0 : ([] : List Int32).length = 0 := rfl
  exact ⟨List.length_eq_zero_iff.mp (by omega), List.length_eq_zero_iff.mp (by omega)⟩
theorem stops_up {W : List Int32} (h : stops (nI 0) W) : stops (nI 1) W := fun w W' e => (h w W' e).elim Or.inl fun z => absurd rfl z.1
theorem st_op {p : List Int32} (h : ∀ w, w ∈ p → w = nI 10 ∨ w = nI 15) : ∀ w, w ∈ p → isOp w := fun w hw => (h w hw).elim (fun z => Or.inr (Or.inr (Or.inl z))) (fun z => Or.inr (Or.inr (Or.inr z)))
theorem td_n0 {K : Nat → Int32} {t : Nat} (h : isTd K t ∨ isPm K t) : ¬ K t = nI 0 ∧ ¬ K t = nI 41 := by
  rcases h with (h | h) | (h | h) <;> (rw [h]; decide +kernel)
theorem pm_ntd {K : Nat → Int32} {t : Nat} (h : isPm K t) : ¬ (K t = nI 42 ∨ K t = nI 47) := by
  rcases h with h | h <;> (rw [h]; decide +kernel)
/-- an operator behind what is read: all that it makes come out -/
theorem SP.op {S : mS} {L : mJ} {K V P : Nat → Int32} {B : Nat} (G : Gd S) (hB : B ≤ 420) {w t : Nat} {a : List Int32} (d : Nat) {I : mI} {q : Nat} {W e pend : List Int32} (w6 : w ≤ 6) (k : TKM I K V P) (h : MS I K t) (hw : I 384 12 = nI w) (h48 : I 384 48 = nI (pend ++ W).length) (hs : WST I (pend ++ W)) (h44 : I 384 44 = nI (q + e.length)) (hc : CM I q e) (hb : B ≤ q ∧ q + a.length + W.length ≤ B + t) (hl : W.length ≤ 3 * w + 1) (ha : a = e ++ pend.map opc) (hp : pend.length ≤ 2) (ho : ∀ w, w ∈ pend → isOp w) (hk : isTd K t ∨ isPm K t) (h6 : (if K t = nI 42 ∨ K t = nI 47 then nI 1 else nI 0) = nI 0 ∨ ∀ w, w ∈ pend → ¬ w = nI 8 ∧ ¬ w = nI 9) (h7 : stops (if K t = nI 42 ∨ K t = nI 47 then nI 1 else nI 0) W) : ∃ J, Fi (exA B) I J ∧ (t < 400 → a96 S L (d + 3) I = a23 S L (d + 3) J ∧ MS J K (t + 1) ∧ J 384 12 = nI w ∧ WST J (gk (K t) :: W) ∧ J 384 48 = nI (W.length + 1) ∧ J 384 44 = nI (q + a.length) ∧ CM J q a ∧ BL I J q) ∧ (¬ t < 400 → a96 S L (d + 3) I = some (none, (S, J, L)) ∧ MF J P t 2) := by
  have la : a.length = e.length + pend.length := by rw [ha, List.length_append, List.length_map]
  have lW : (pend ++ W).length = pend.length + W.length := List.length_append
  have ht4 := h.1
  obtain ⟨n0, n41⟩ := td_n0 hk
  obtain ⟨J, f, r1, r2⟩ := e234 d (L := L) (B := B) G k h pend W (q + e.length) h44 (by omega) h48 (by omega) hs (fun w hw => ⟨ho w hw, h6.elim (fun z => Or.inl z) (fun z => Or.inr (z w hw))⟩) h7 n0
  have e0 : a96 S L (d + 3) I = evk zcod none (d + 3) zc_X12_expression 234 [(0, .ref 384), (1, .int (nI 0)), (2, .int (nI 1))] [.int (if K t = nI 42 ∨ K t = nI 47 then nI 1 else nI 0), .ref 384] (S, I, L) := by
    rw [e96_no d G k h (Or.inl n41), e145_op d G k h hk, e210 d G k h]
  refine ⟨J, f, fun ht => ?_, fun ht => ⟨e0.trans (r2 ht).1, (r2 ht).2⟩⟩
  obtain ⟨a1, a2, a3, a4, a5, a6, a7, a8⟩ := r1 ht
  refine ⟨e0.trans a1, a2, a3.trans hw, a4, a5, by rw [a6, la, Nat.add_assoc], ?_, fun j hj => a8 j (by omega)⟩
  rw [ha]
  exact (hc.lo fun j hj => a8 j (by omega)).app a7
theorem sp_uInt {S : mS} {L : mJ} {K V P : Nat → Int32} {B : Nat} (G : Gd S) (hB : B ≤ 420) {w t : Nat} {c : Int32} (hc : K t = nI 3 ∧ c = V t ∨ ∃ j, j < 9 ∧ K t = nI (141 + j) ∧ c = -10 - nI j) : SP S L K V P B 0 w t [] (if t < 400 then Sum.inl (t + 1, [c]) else Sum.inr (t, 2)) := by
  intro d I q W e pend w6 k h hw h48 hs h44 _ hb hl hx _ ha hp _
  obtain ⟨rfl, rfl⟩ := no_e ha
  have ht4 := h.1
  have hb' : q + 0 + W.length ≤ B + t := hb.2
  have n40 : ¬ K t = nI 40 := by
    rcases hc with z | ⟨j, hj, z, _⟩
    · rw [z.1]; decide +kernel
    · rw [z]
      exact (by decide +kernel : ∀ j, j < 9 → ¬ nI (141 + j) = nI 40) j hj
  obtain ⟨J, e1, f1, r1, r2⟩ := m_unit_c d (L := L) (B := B) G k h (q := q) h44 (by omega) (by omega) hc
  have e0 : startX S L (d + 3) I 0 = _ := e23_no d (L := L) G k h n40
  by_cases ht : t < 400
  · rw [if_pos ht]
    obtain ⟨a1, a2, a3, a4⟩ := r1 ht
    refine ⟨J, [], [c], e0.trans (e84_ok d G e1 a1.2.2.1), f1.up fun _ _ => unA_ex, a1, (f1 _ _ (by unfold unA; omega)).trans hw, (f1 _ _ (by unfold unA; omega)).trans h48, hs.cg fun j _ => f1 _ _ (by unfold unA; omega), a2, a3, a4, rfl, rfl⟩
  · rw [if_neg ht]
    exact ⟨J, e0.trans (e84_bad d G e1 (r2 ht).gt), f1.up fun _ _ => unA_ex, r2 ht⟩
theorem m_px {S : mS} {L : mJ} {K V P : Nat → Int32} {B : Nat} (G : Gd S) (hB : B ≤ 420) (hV : ∀ t, K t = nI 3 → nI 0 ≤ V t) {g w t : Nat} {a : List Int32} {r : mRes} (h : PX K V g w t a r) : PX K V g w t a r ∧ SP S L K V P B g w t a r := by
  refine h (fun g w t a r => PX K V g w t a r ∧ SP S L K V P B g w t a r) ⟨?_, ?_, ?_, ?_, ?_, ?_, ?_, ?_, ?_, ?_, ?_, ?_, ?_, ?_, ?_, ?_, ?_, ?_, ?_, ?_, ?_⟩
  · intro w t h1 ht
    have q := sp_uInt (S := S) (L := L) (P := P) (w := w) (V := V) G hB (c := V t) (Or.inl ⟨h1, rfl⟩)
    rw [if_pos ht] at q
    exact ⟨.uInt h1 ht, q⟩
  · intro w t j hj h1 ht
    have q := sp_uInt (S := S) (L := L) (P := P) (w := w) (V := V) G hB (c := -10 - nI j) (Or.inr ⟨j, hj, h1, rfl⟩)
    rw [if_pos ht] at q
    exact ⟨.uVar hj h1 ht, q⟩
  · intro w t h1 ht
    refine ⟨.uFull h1 ht, ?_⟩
    rcases h1 with h1 | ⟨j, hj, h1⟩ | h1
    · have q := sp_uInt (S := S) (L := L) (P := P) (w := w) (V := V) G hB (c := V t) (Or.inl ⟨h1, rfl⟩)
      rw [if_neg ht] at q
      exact q
    · have q := sp_uInt (S := S) (L := L) (P := P) (w := w) (V := V) G hB (c := -10 - nI j) (Or.inr ⟨j, hj, h1, rfl⟩)
      rw [if_neg ht] at q
      exact q
    · intro d I q W e pend w6 k h hw h48 hs h44 _ hb hl hx _ ha hp _
      obtain ⟨rfl, rfl⟩ := no_e ha
      have hl' : W.length ≤ 3 * w + 2 := hl
      obtain ⟨J, f, _, r2⟩ := e23_open d (L := L) (B := B) G k h h1 hw w6 (W := W) h48 (by omega) hs
      obtain ⟨r3, r4⟩ := r2 (Or.inr ht)
      exact ⟨J, r3, f, r4⟩
  · intro w t h1
    refine ⟨.uSyn h1, ?_⟩
    intro d I q W e pend w6 k h hw h48 hs h44 _ hb hl hx _ ha hp _
    have e1 := m_unit_no d (L := L) G k h (fun z => h1 (Or.inl z)) (fun z => h1 (Or.inr (Or.inl z)))
    have m1 : MF (uI (uI I 384 13 (nI 1)) 384 14 (P t)) P t 1 := mf_of (K := K) (Or.inl rfl)
    exact ⟨_, (e23_no d (L := L) G k h fun z => h1 (Or.inr (Or.inr z))).trans (e84_bad d G e1 m1.gt), Fi.u (Fi.u Fi.rf (Or.inl ⟨rfl, by omega⟩)) (Or.inl ⟨rfl, by omega⟩), m1⟩
  · intro w t h1 hw6
    refine ⟨.uDeep h1 hw6, ?_⟩
    intro d I q W e pend w6 k h hw h48 hs h44 _ hb hl hx _ ha hp _
    obtain ⟨rfl, rfl⟩ := no_e ha
    have hl' : W.length ≤ 3 * w + 2 := hl
    obtain ⟨J, f, _, r2⟩ := e23_open d (L := L) (B := B) G k h h1 hw w6 (W := W) h48 (by omega) hs
    obtain ⟨r3, r4⟩ := r2 (Or.inl (by omega))
    exact ⟨J, r3, f, r4⟩
  · intro w t t' o h1 w5 ht ih h4 h5
    refine ⟨.uPar h1 w5 ht ih.1 h4 h5, ?_⟩
    intro d I q W e pend w6 k h hw h48 hs h44 _ hb hl hx _ ha hp _
    obtain ⟨rfl, rfl⟩ := no_e ha
    have hl' : W.length ≤ 3 * w + 2 := hl
    have hb' : q + 0 + W.length ≤ B + t := hb.2
    have pr := ih.1.pr hV (by omega) (by omega)
    have l2 : o.length + (t + 1) ≤ 0 + t' := pr.2.2.1
    have l3 := pr.1
    obtain ⟨J, f, r1, _⟩ := e23_open d (L := L) (B := B) G k h h1 hw w6 (W := W) h48 (by omega) hs
    obtain ⟨s1, s2, s3, s4, s5, s6, s7⟩ := r1 w5 ht
    obtain ⟨J1, pend, e, e1, f1, a1, a2, a3, a4, a5, a6, a7, a8, a9⟩ := ih.2 d J q (nI 6 :: W) [] [] (by omega) (k.ex f) s2 s3 s4 s5 (s6.trans h44) trivial (by refine ⟨by omega, ?_⟩; show q + 0 + (W.length + 1) ≤ _; omega) (by show W.length + 1 ≤ 3 * (w + 1) + 0; omega) (fun x hxm => (List.mem_cons.mp hxm).elim (fun z => Or.inr z) (hx x)) (fun x W' z => by cases z; exact Or.inl rfl) rfl ⟨fun _ z => absurd z List.not_mem_nil, Nat.zero_le _⟩ (fun _ => rfl)
    have lo : o.length = e.length + pend.length := by rw [a8, List.length_append, List.length_map]
    have p2 : pend.length ≤ 2 := a9.2
    have lW : (pend ++ nI 6 :: W).length = pend.length + (W.length + 1) := by rw [List.length_append]; rfl
    obtain ⟨J2, f2, q1, _⟩ := e96_close d (L := L) (B := B) G (k.ex (f.tr f1)) a1 h4 a2 w5 pend W (q + e.length) a5 (by omega) a3 (by omega) a4 a9.1 hx
    obtain ⟨c1, c2, c3, c4, c5, c6, c7, c8⟩ := q1 h5
    refine ⟨J2, [], o, s1.trans (e1.trans c1), (f.tr f1).tr f2, c2, c3, c4, c5, ?_, ?_, ?_, (List.append_nil o).symm, rfl⟩
    · rw [c6, lo, Nat.add_assoc]
    · rw [a8]
      exact (a6.lo fun j hj => c8 j (by omega)).app c7
    · exact ((s7 q).tr a7 (Nat.le_refl _)).tr c8 (by omega)
  · intro w t t' f h1 w5 ht ih
    refine ⟨.uParB h1 w5 ht ih.1, ?_⟩
    intro d I q W e pend w6 k h hw h48 hs h44 _ hb hl hx _ ha hp _
    obtain ⟨rfl, rfl⟩ := no_e ha
    have hl' : W.length ≤ 3 * w + 2 := hl
    have hb' : q + 0 + W.length ≤ B + t := hb.2
    obtain ⟨J, f, r1, _⟩ := e23_open d (L := L) (B := B) G k h h1 hw w6 (W := W) h48 (by omega) hs
    obtain ⟨s1, s2, s3, s4, s5, s6, s7⟩ := r1 w5 ht
    obtain ⟨J1, e1, f1, m1⟩ := ih.2 d J q (nI 6 :: W) [] [] (by omega) (k.ex f) s2 s3 s4 s5 (s6.trans h44) trivial (by refine ⟨by omega, ?_⟩; show q + 0 + (W.length + 1) ≤ _; omega) (by show W.length + 1 ≤ 3 * (w + 1) + 0; omega) (fun x hxm => (List.mem_cons.mp hxm).elim (fun z => Or.inr z) (hx x)) (fun x W' z => by cases z; exact Or.inl rfl) rfl ⟨fun _ z => absurd z List.not_mem_nil, Nat.zero_le _⟩ (fun _ => rfl)
    exact ⟨J1, s1.trans e1, f.tr f1, m1⟩
  · intro w t t' o h1 w5 ht ih h4
    refine ⟨.uParS h1 w5 ht ih.1 h4, ?_⟩
    intro d I q W e pend w6 k h hw h48 hs h44 _ hb hl hx _ ha hp _
    obtain ⟨rfl, rfl⟩ := no_e ha
    have hl' : W.length ≤ 3 * w + 2 := hl
    have hb' : q + 0 + W.length ≤ B + t := hb.2
    have pr := ih.1.pr hV (by omega) (by omega)
    have l2 : o.length + (t + 1) ≤ 0 + t' := pr.2.2.1
    have l3 := pr.1
    have g1 := pr.2.2.2.2.2.2.2.2.2.1 (Or.inr (Or.inr rfl))
    have g2 := pr.2.2.2.2.2.2.2.2.2.2.1 (Or.inl rfl)
    obtain ⟨J, f, r1, _⟩ := e23_open d (L := L) (B := B) G k h h1 hw w6 (W := W) h48 (by omega) hs
    obtain ⟨s1, s2, s3, s4, s5, s6, s7⟩ := r1 w5 ht
    obtain ⟨J1, pend, e, e1, f1, a1, a2, a3, a4, a5, a6, a7, a8, a9⟩ := ih.2 d J q (nI 6 :: W) [] [] (by omega) (k.ex f) s2 s3 s4 s5 (s6.trans h44) trivial (by refine ⟨by omega, ?_⟩; show q + 0 + (W.length + 1) ≤ _; omega) (by show W.length + 1 ≤ 3 * (w + 1) + 0; omega) (fun x hxm => (List.mem_cons.mp hxm).elim (fun z => Or.inr z) (hx x)) (fun x W' z => by cases z; exact Or.inl rfl) rfl ⟨fun _ z => absurd z List.not_mem_nil, Nat.zero_le _⟩ (fun _ => rfl)
    have lo : o.length = e.length + pend.length := by rw [a8, List.length_append, List.length_map]
    have p2 : pend.length ≤ 2 := a9.2
    have lW : (pend ++ nI 6 :: W).length = pend.length + (W.length + 1) := by rw [List.length_append]; rfl
    obtain ⟨J2, c1, f2, m2⟩ := e96_fail d (L := L) (B := B) G (k.ex (f.tr f1)) a1 h4 g1 g2 a2 w5 (pend ++ nI 6 :: W) (q + e.length) a5 (by omega) a3 (by omega) a4 (fun x hxm => by
      rcases List.mem_append.mp hxm with z | z
      · exact Or.inl (a9.1 x z)
      · exact (List.mem_cons.mp z).elim (fun z => Or.inr z) (hx x))
    exact ⟨J2, s1.trans (e1.trans c1), (f.tr f1).tr f2, m2⟩
  · intro w t t' o h1 w5 ht ih h4 h5
    refine ⟨.uParF h1 w5 ht ih.1 h4 h5, ?_⟩
    intro d I q W e pend w6 k h hw h48 hs h44 _ hb hl hx _ ha hp _
    obtain ⟨rfl, rfl⟩ := no_e ha
    have hl' : W.length ≤ 3 * w + 2 := hl
    have hb' : q + 0 + W.length ≤ B + t := hb.2
    have pr := ih.1.pr hV (by omega) (by omega)
    have l2 : o.length + (t + 1) ≤ 0 + t' := pr.2.2.1
    have l3 := pr.1
    obtain ⟨J, f, r1, _⟩ := e23_open d (L := L) (B := B) G k h h1 hw w6 (W := W) h48 (by omega) hs
    obtain ⟨s1, s2, s3, s4, s5, s6, s7⟩ := r1 w5 ht
    obtain ⟨J1, pend, e, e1, f1, a1, a2, a3, a4, a5, a6, a7, a8, a9⟩ := ih.2 d J q (nI 6 :: W) [] [] (by omega) (k.ex f) s2 s3 s4 s5 (s6.trans h44) trivial (by refine ⟨by omega, ?_⟩; show q + 0 + (W.length + 1) ≤ _; omega) (by show W.length + 1 ≤ 3 * (w + 1) + 0; omega) (fun x hxm => (List.mem_cons.mp hxm).elim (fun z => Or.inr z) (hx x)) (fun x W' z => by cases z; exact Or.inl rfl) rfl ⟨fun _ z => absurd z List.not_mem_nil, Nat.zero_le _⟩ (fun _ => rfl)
    have lo : o.length = e.length + pend.length := by rw [a8, List.length_append, List.length_map]
    have p2 : pend.length ≤ 2 := a9.2
    have lW : (pend ++ nI 6 :: W).length = pend.length + (W.length + 1) := by rw [List.length_append]; rfl
    obtain ⟨J2, f2, _, q2⟩ := e96_close d (L := L) (B := B) G (k.ex (f.tr f1)) a1 h4 a2 w5 pend W (q + e.length) a5 (by omega) a3 (by omega) a4 a9.1 hx
    obtain ⟨c1, m2⟩ := q2 h5
    exact ⟨J2, s1.trans (e1.trans c1), (f.tr f1).tr f2, m2⟩
  · intro w t t' f ih
    refine ⟨.pB ih.1, ?_⟩
    intro d I q W e pend w6 k h hw h48 hs h44 hc hb hl hx hok ha hp hg
    obtain ⟨rfl, rfl⟩ := no_e ha
    exact ih.2 d I q W [] [] w6 k h hw h48 hs h44 hc hb (by have hl' : W.length ≤ 3 * w + 1 := hl; show W.length ≤ 3 * w + 2; omega) hx trivial rfl rfl (fun _ => rfl)
  · intro w t t' o r ih1 ih2
    refine ⟨.p ih1.1 ih2.1, ?_⟩
    intro d I q W e pend w6 k h hw h48 hs h44 hc hb hl hx hok ha hp hg
    obtain ⟨rfl, rfl⟩ := no_e ha
    have hl' : W.length ≤ 3 * w + 1 := hl
    have hb' : q + 0 + W.length ≤ B + t := hb.2
    have pr := ih1.1.pr hV h.1 w6
    have l2 : o.length + t ≤ 0 + t' := pr.2.2.1
    obtain ⟨J, pend, e, e1, f1, a1, a2, a3, a4, a5, a6, a7, a8, a9⟩ := ih1.2 d I q W [] [] w6 k h hw h48 hs h44 hc hb (by show W.length ≤ 3 * w + 2; omega) hx trivial rfl rfl (fun _ => rfl)
    have a9' : pend = [] := a9
    subst a9'
    have a8' : o = e := a8.trans (List.append_nil e)
    subst a8'
    exact (ih2.2 d J q W o [] w6 (k.ex f1) a1 a2 a3 a4 a5 a6 (by omega) hl hx hok (List.append_nil o).symm ⟨fun _ z => absurd z List.not_mem_nil, Nat.zero_le _⟩ (fun z => by omega)).pre e1 f1 a7 fun _ z => z
  · intro w t a h1
    refine ⟨.plE h1, ?_⟩
    intro d I q W e pend w6 k h hw h48 hs h44 hc hb hl hx hok ha hp hg
    exact ⟨I, pend, e, rfl, Fi.rf, h, hw, h48, hs, h44, hc, BL.rf, ha, hp⟩
  · intro w t a h1 ht
    refine ⟨.plF h1 ht, ?_⟩
    intro d I q W e pend w6 k h hw h48 hs h44 hc hb hl hx hok ha hp hg
    obtain ⟨J, f, _, r2⟩ := SP.op G hB d (L := L) w6 k h hw h48 hs h44 hc hb hl ha (by have := hp.2; omega) (st_op hp.1) (Or.inl h1) (Or.inr fun x hxm => by rcases hp.1 x hxm with z | z <;> (rw [z]; decide +kernel)) (by rw [show (if K t = nI 42 ∨ K t = nI 47 then nI 1 else nI 0) = nI 1 from if_pos h1]; exact hok)
    obtain ⟨e1, m1⟩ := r2 ht
    exact ⟨J, e1, f, m1⟩
  · intro w t t' f a h1 ht ih
    refine ⟨.plB h1 ht ih.1, ?_⟩
    intro d I q W e pend w6 k h hw h48 hs h44 hc hb hl hx hok ha hp hg
    obtain ⟨J, f, r1, _⟩ := SP.op G hB d (L := L) w6 k h hw h48 hs h44 hc hb hl ha (by have := hp.2; omega) (st_op hp.1) (Or.inl h1) (Or.inr fun x hxm => by rcases hp.1 x hxm with z | z <;> (rw [z]; decide +kernel)) (by rw [show (if K t = nI 42 ∨ K t = nI 47 then nI 1 else nI 0) = nI 1 from if_pos h1]; exact hok)
    obtain ⟨s1, s2, s3, s4, s5, s6, s7, s8⟩ := r1 ht
    have hl' : W.length ≤ 3 * w + 1 := hl
    obtain ⟨J1, e1, f1, m1⟩ := ih.2 d J (q + a.length) (gk (K t) :: W) [] [] w6 (k.ex f) s2 s3 s5 s4 s6 trivial (by refine ⟨by omega, ?_⟩; show q + a.length + 0 + (W.length + 1) ≤ _; omega) (by show W.length + 1 ≤ 3 * w + 2; omega) (fun x hxm => (List.mem_cons.mp hxm).elim (fun z => Or.inl (by rcases h1 with y | y <;> (rw [z, y]; unfold isOp; decide +kernel))) (hx x)) trivial rfl rfl (fun _ => rfl)
    exact ⟨J1, s1.trans e1, f.tr f1, m1⟩
  · intro w t t' a o c r h1 ht ih1 ih2
    have h1' : isTd K t := h1.elim (fun z => Or.inl z.1) (fun z => Or.inr z.1)
    refine ⟨.pl h1 ht ih1.1 ih2.1, ?_⟩
    intro d I q W e pend w6 k h hw h48 hs h44 hc hb hl hx hok ha hp hg
    have pr := ih1.1.pr hV (by omega) w6
    have l2 : o.length + (t + 1) ≤ 0 + t' := pr.2.2.1
    obtain ⟨J, f, r1, _⟩ := SP.op G hB d (L := L) w6 k h hw h48 hs h44 hc hb hl ha (by have := hp.2; omega) (st_op hp.1) (Or.inl h1') (Or.inr fun x hxm => by rcases hp.1 x hxm with z | z <;> (rw [z]; decide +kernel)) (by rw [show (if K t = nI 42 ∨ K t = nI 47 then nI 1 else nI 0) = nI 1 from if_pos h1']; exact hok)
    obtain ⟨s1, s2, s3, s4, s5, s6, s7, s8⟩ := r1 ht
    have hl' : W.length ≤ 3 * w + 1 := hl
    obtain ⟨J1, pend1, e1, x1, f1, a1, a2, a3, a4, a5, a6, a7, a8, a9⟩ := ih1.2 d J (q + a.length) (gk (K t) :: W) [] [] w6 (k.ex f) s2 s3 s5 s4 s6 trivial (by refine ⟨by omega, ?_⟩; show q + a.length + 0 + (W.length + 1) ≤ _; omega) (by show W.length + 1 ≤ 3 * w + 2; omega) (fun x hxm => (List.mem_cons.mp hxm).elim (fun z => Or.inl (by rcases h1' with y | y <;> (rw [z, y]; unfold isOp; decide +kernel))) (hx x)) trivial rfl rfl (fun _ => rfl)
    have a9' : pend1 = [] := a9
    subst a9'
    have a8' : o = e1 := a8.trans (List.append_nil e1)
    subst a8'
    have len : (a ++ (o ++ [c])).length = a.length + (o.length + 1) := by rw [List.length_append, List.length_append]; rfl
    have oc : opc (gk (K t)) = c := by
      rcases h1 with ⟨y, z⟩ | ⟨y, z⟩
      · rw [y, gk_ops.1, opc_of.2.2.1, z]
      · rw [y, gk_ops.2.1, opc_of.2.2.2, z]
    exact (ih2.2 d J1 q W (a ++ o) [gk (K t)] w6 (k.ex (f.tr f1)) a1 a2 a3 a4 (by rw [a5, List.length_append, Nat.add_assoc]) ((s7.lo fun j hj => a7 j hj).app a6) (by rw [len]; omega) hl hx hok (by rw [List.append_assoc]; show _ = a ++ (o ++ [opc (gk (K t))]); rw [oc]) ⟨fun x hxm => by
      rw [List.mem_singleton.mp hxm]
      rcases h1' with y | y
      · exact Or.inl (by rw [y]; exact gk_ops.1)
      · exact Or.inr (by rw [y]; exact gk_ops.2.1), Nat.le_refl _⟩ (fun z => by omega)).pre (s1.trans x1) (f.tr f1) (s8.tr a7 (by omega)) fun _ z => z
  · intro w t t' f ih
    refine ⟨.sB ih.1, ?_⟩
    intro d I q W e pend w6 k h hw h48 hs h44 hc hb hl hx hok ha hp hg
    obtain ⟨rfl, rfl⟩ := no_e ha
    exact ih.2 d I q W [] [] w6 k h hw h48 hs h44 hc hb (by have hl' : W.length ≤ 3 * w + 0 := hl; show W.length ≤ 3 * w + 1; omega) hx (stops_up hok) rfl ⟨fun _ z => absurd z List.not_mem_nil, Nat.zero_le _⟩ (fun _ => rfl)
  · intro w t t' o r ih1 ih2
    refine ⟨.s ih1.1 ih2.1, ?_⟩
    intro d I q W e pend w6 k h hw h48 hs h44 hc hb hl hx hok ha hp hg
    obtain ⟨rfl, rfl⟩ := no_e ha
    have hl' : W.length ≤ 3 * w + 0 := hl
    have hb' : q + 0 + W.length ≤ B + t := hb.2
    have pr := ih1.1.pr hV h.1 w6
    have l2 : o.length + t ≤ 0 + t' := pr.2.2.1
    obtain ⟨J, pend, e, e1, f1, a1, a2, a3, a4, a5, a6, a7, a8, a9⟩ := ih1.2 d I q W [] [] w6 k h hw h48 hs h44 hc hb (by show W.length ≤ 3 * w + 1; omega) hx (stops_up hok) rfl ⟨fun _ z => absurd z List.not_mem_nil, Nat.zero_le _⟩ (fun _ => rfl)
    exact (ih2.2 d J q W e pend w6 (k.ex f1) a1 a2 a3 a4 a5 a6 (by omega) hl hx hok a8 ⟨st_op a9.1, by have := a9.2; omega⟩ (fun z => by omega)).pre e1 f1 a7 fun _ z => z
  · intro w t a h1
    refine ⟨.slE h1, ?_⟩
    intro d I q W e pend w6 k h hw h48 hs h44 hc hb hl hx hok ha hp hg
    exact ⟨I, pend, e, rfl, Fi.rf, h, hw, h48, hs, h44, hc, BL.rf, ha, hp⟩
  · intro w t a h1 ht
    refine ⟨.slF h1 ht, ?_⟩
    intro d I q W e pend w6 k h hw h48 hs h44 hc hb hl hx hok ha hp hg
    have z0 : (if K t = nI 42 ∨ K t = nI 47 then nI 1 else nI 0) = nI 0 := if_neg (pm_ntd h1)
    obtain ⟨J, f, _, r2⟩ := SP.op G hB d (L := L) w6 k h hw h48 hs h44 hc hb (by have hl' : W.length ≤ 3 * w + 0 := hl; omega) ha hp.2 hp.1 (Or.inr h1) (Or.inl z0) (by rw [z0]; exact hok)
    obtain ⟨e1, m1⟩ := r2 ht
    exact ⟨J, e1, f, m1⟩
  · intro w t t' f a h1 ht ih
    refine ⟨.slB h1 ht ih.1, ?_⟩
    intro d I q W e pend w6 k h hw h48 hs h44 hc hb hl hx hok ha hp hg
    have z0 : (if K t = nI 42 ∨ K t = nI 47 then nI 1 else nI 0) = nI 0 := if_neg (pm_ntd h1)
    have hl' : W.length ≤ 3 * w + 0 := hl
    obtain ⟨J, f, r1, _⟩ := SP.op G hB d (L := L) w6 k h hw h48 hs h44 hc hb (by omega) ha hp.2 hp.1 (Or.inr h1) (Or.inl z0) (by rw [z0]; exact hok)
    obtain ⟨s1, s2, s3, s4, s5, s6, s7, s8⟩ := r1 ht
    obtain ⟨J1, e1, f1, m1⟩ := ih.2 d J (q + a.length) (gk (K t) :: W) [] [] w6 (k.ex f) s2 s3 s5 s4 s6 trivial (by refine ⟨by omega, ?_⟩; show q + a.length + 0 + (W.length + 1) ≤ _; omega) (by show W.length + 1 ≤ 3 * w + 1; omega) (fun x hxm => (List.mem_cons.mp hxm).elim (fun z => Or.inl (by rcases h1 with y | y <;> (rw [z, y]; unfold isOp; decide +kernel))) (hx x)) (fun x W' z => by
      cases z
      exact Or.inr ⟨z10, by rcases h1 with y | y <;> (rw [y]; decide +kernel)⟩) rfl ⟨fun _ z => absurd z List.not_mem_nil, Nat.zero_le _⟩ (fun _ => rfl)
    exact ⟨J1, s1.trans e1, f.tr f1, m1⟩
  · intro w t t' a o c r h1 ht ih1 ih2
    have h1' : isPm K t := h1.elim (fun z => Or.inl z.1) (fun z => Or.inr z.1)
    refine ⟨.sl h1 ht ih1.1 ih2.1, ?_⟩
    intro d I q W e pend w6 k h hw h48 hs h44 hc hb hl hx hok ha hp hg
    have z0 : (if K t = nI 42 ∨ K t = nI 47 then nI 1 else nI 0) = nI 0 := if_neg (pm_ntd h1')
    have hl' : W.length ≤ 3 * w + 0 := hl
    have pr := ih1.1.pr hV (by omega) w6
    have l2 : o.length + (t + 1) ≤ 0 + t' := pr.2.2.1
    obtain ⟨J, f, r1, _⟩ := SP.op G hB d (L := L) w6 k h hw h48 hs h44 hc hb (by omega) ha hp.2 hp.1 (Or.inr h1') (Or.inl z0) (by rw [z0]; exact hok)
    obtain ⟨s1, s2, s3, s4, s5, s6, s7, s8⟩ := r1 ht
    obtain ⟨J1, pend1, e1, x1, f1, a1, a2, a3, a4, a5, a6, a7, a8, a9⟩ := ih1.2 d J (q + a.length) (gk (K t) :: W) [] [] w6 (k.ex f) s2 s3 s5 s4 s6 trivial (by refine ⟨by omega, ?_⟩; show q + a.length + 0 + (W.length + 1) ≤ _; omega) (by show W.length + 1 ≤ 3 * w + 1; omega) (fun x hxm => (List.mem_cons.mp hxm).elim (fun z => Or.inl (by rcases h1' with y | y <;> (rw [z, y]; unfold isOp; decide +kernel))) (hx x)) (fun x W' z => by
      cases z
      exact Or.inr ⟨z10, by rcases h1' with y | y <;> (rw [y]; decide +kernel)⟩) rfl ⟨fun _ z => absurd z List.not_mem_nil, Nat.zero_le _⟩ (fun _ => rfl)
    have len : (a ++ (o ++ [c])).length = a.length + (o.length + 1) := by rw [List.length_append, List.length_append]; rfl
    have oc : opc (gk (K t)) = c := by
      rcases h1 with ⟨y, z⟩ | ⟨y, z⟩
      · rw [y, gk_ops.2.2.1, opc_of.1, z]
      · rw [y, gk_ops.2.2.2, opc_of.2.1, z]
    have ap : pend1 ++ gk (K t) :: W = (pend1 ++ [gk (K t)]) ++ W := by rw [List.append_assoc]; rfl
    rw [ap] at a3 a4
    exact (ih2.2 d J1 q W (a ++ e1) (pend1 ++ [gk (K t)]) w6 (k.ex (f.tr f1)) a1 a2 a3 a4 (by rw [a5, List.length_append, Nat.add_assoc]) ((s7.lo fun j hj => a7 j hj).app a6) (by rw [len]; omega) hl hx hok (by rw [List.map_append, a8]; show a ++ (e1 ++ pend1.map opc ++ [c]) = a ++ e1 ++ (pend1.map opc ++ [opc (gk (K t))]); rw [oc]; simp only [List.append_assoc]) ⟨fun x hxm => by
      rcases List.mem_append.mp hxm with z | z
      · exact st_op a9.1 x z
      · rw [List.mem_singleton.mp z]
        rcases h1' with y | y <;> (rw [y]; unfold isOp; decide +kernel), by rw [List.length_append]; have := a9.2; show pend1.length + 1 ≤ 2; omega⟩ (fun z => by omega)).pre (s1.trans x1) (f.tr f1) (s8.tr a7 (by omega)) fun _ z => z
/-- an expression, from its first token on: expression() of the reference -/
theorem m_expression (d : Nat) {S : mS} {I : mI} {L : mJ} {K V P : Nat → Int32} {B : Nat} (G : Gd S) (hB : B ≤ 420) (k : TKM I K V P) {t q : Nat} {r : mRes} (hr : PX K V 3 0 t [] r) (h : MS I K t) (hw : I 384 12 = nI 0) (h44 : I 384 44 = nI q) (hb : B ≤ q ∧ q ≤ B + t) : ∃ J, evM zcod (d + 4) 188 [.ref 384] (S, I, L) = some (none, (S, J, L)) ∧ Fi (exA B) I J ∧ match r with
    | Sum.inr (t', f) => MF J P t' f
    | Sum.inl (t', o) => MS J K t' ∧ J 384 12 = nI 0 ∧ J 384 44 = nI (q + o.length) ∧ CM J q o ∧ BL I J q := by
  let I0 := uI I 384 48 (nI 0)
  have f0 : Fi (exA B) I I0 := Fi.u Fi.rf (Or.inl ⟨rfl, by omega⟩)
  have h0 : MS I0 K t := ⟨h.1, (uI_ix (by omega)).trans h.2.1, (uI_ix (by omega)).trans h.2.2.1, h.2.2.2⟩
  have e0 : evM zcod (d + 4) 188 [.ref 384] (S, I, L) = a23 S L (d + 3) I0 := by
    have w0 : uI I 384 48 (nI 0) 384 12 = nI 0 := (uI_ix (by omega)).trans hw
    rw [E_X12_expression, B_X12_expression_0]
    simp only [gM G, if_true, w0]
    rw [B_X12_expression_12, if_neg z10]
    simp only [gM G, if_true]
    rw [show uI I 384 48 (nI 0) 384 13 = nI 0 from h0.2.2.1, if_neg (fun q => q rfl)]
  have sim := (m_px (S := S) (L := L) (P := P) G hB k.2.2 hr).2 d I0 q [] [] [] (Nat.zero_le _) (k.ex f0) h0 ((uI_ix (by omega)).trans hw) (uI_same _ _ _ _) trivial ((uI_ix (by omega)).trans h44) trivial (by refine ⟨by omega, ?_⟩; show q + 0 + 0 ≤ _; omega) (Nat.zero_le _) (fun x hx => absurd hx List.not_mem_nil) (fun w W' e => by cases e) rfl ⟨fun _ z => absurd z List.not_mem_nil, Nat.zero_le _⟩ (fun _ => rfl)
  have pr := hr.pr k.2.2 h.1 (Nat.zero_le _)
  match r, sim, pr with
  | Sum.inr (t', f), sim, pr =>
    obtain ⟨J, e1, f1, m1⟩ := sim
    exact ⟨J, e0.trans e1, f0.tr f1, m1⟩
  | Sum.inl (t', o), sim, pr =>
    obtain ⟨J, pend, e, e1, f1, a1, a2, a3, a4, a5, a6, a7, a8, a9⟩ := sim
    have n1 := pr.2.2.2.2.2.2.2.2.2.1 (Or.inr (Or.inr rfl))
    have n2 := pr.2.2.2.2.2.2.2.2.2.2.1 (Or.inl rfl)
    have l2 : o.length + t ≤ 0 + t' := pr.2.2.1
    have l3 := pr.1
    have lo : o.length = e.length + pend.length := by rw [a8, List.length_append, List.length_map]
    have p2 : pend.length ≤ 2 := a9.2
    rw [List.append_nil] at a3 a4
    obtain ⟨J2, e2, f2, c1, c2, c3, c4⟩ := m_comesOut (d + 1) (L := L) (B := B) G (s := nI 0) pend [] (q + e.length) a5 (by omega) (by rw [List.append_nil]; exact a3) (by rw [List.append_nil]; omega) (by rw [List.append_nil]; exact a4) (fun w hw => ⟨a9.1 w hw, Or.inl rfl⟩) (fun w W' e => by cases e)
    refine ⟨J2, ?_, (f0.tr f1).tr (f2.up fun _ _ => oxA_ex), ⟨a1.1, (f2 _ _ (by unfold oxA; omega)).trans a1.2.1, (f2 _ _ (by unfold oxA; omega)).trans a1.2.2.1, a1.2.2.2⟩, (f2 _ _ (by unfold oxA; omega)).trans a2, by rw [c1, lo, Nat.add_assoc], ?_, ?_⟩
    · refine e0.trans (e1.trans ?_)
      rw [e96_no d G (k.ex (f0.tr f1)) a1 (Or.inr a2), e145_no d G (k.ex (f0.tr f1)) a1 n1 n2, B_X12_expression_186, if_neg (fun q => q rfl)]
      simp only [gM G, if_true, a2, Int32.le_refl]
      rw [B_X12_expression_204]
      simp only [gM G, if_true, e2, bV_eq]
    · rw [a8]
      exact (a6.lo fun j hj => c4 j (by omega)).app c3
    · exact (BL.of (I := I) (J := I0) (fun j => uI_off (by omega)) (fun j => uI_off (by omega)) q).tr (a7.tr c4 (by omega)) (Nat.le_refl _)
