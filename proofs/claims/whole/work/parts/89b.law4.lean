/-! a law, reference side: the loop -/
theorem kk_law : (138 ∈ kKs ∧ gkN 138 = 30 ∧ ¬ nI 138 = nI 0) ∧ (60 ∈ kKs ∧ gkN 60 = 13 ∧ ¬ nI 60 = nI 0) ∧ (139 ∈ kKs ∧ gkN 139 = 31 ∧ ¬ nI 139 = nI 0) ∧ (140 ∈ kKs ∧ gkN 140 = 32 ∧ ¬ nI 140 = nI 0) ∧ (59 ∈ kKs ∧ gkN 59 = 4 ∧ ¬ nI 59 = nI 0) ∧ (61 ∈ kKs ∧ gkN 61 = 5 ∧ ¬ nI 61 = nI 0) := by decide +kernel
theorem MW.lo {I J : mI} {qe last : Nat} (h : BL I J qe) (hb : BB I J last) : ∀ {r : List mBr} {e : List Int32} {b : Nat}, MW I qe last b r e → MW J qe last b r e
  | [], e, b, ⟨q1, q2, p, q, q3, q4, q5, q6, q7, q8⟩ => ⟨q1, (hb _ (by omega) (by omega) _ (by omega)).trans q2, p, q, (hb _ (by omega) (by omega) _ (by omega)).trans q3, (hb _ (by omega) (by omega) _ (by omega)).trans q4, q5, q6, q7.lo fun j hj => h j (by omega), q8⟩
  | (x, y, t) :: r, e, b, ⟨q1, q2, ⟨p0, p1, p2, p3, a1, a2, a3, a4, a5, a6, a7, a8, a9, b1, b2, b3, b4, b5⟩, q⟩ => ⟨q1, (hb _ (by omega) (by omega) _ (by omega)).trans q2, ⟨p0, p1, p2, p3, (hb _ (by omega) (by omega) _ (by omega)).trans a1, (hb _ (by omega) (by omega) _ (by omega)).trans a2, (hb _ (by omega) (by omega) _ (by omega)).trans a3, (hb _ (by omega) (by omega) _ (by omega)).trans a4, a5, a6, a7, a8, a9.lo fun j hj => h j (by omega), b1, b2.lo fun j hj => h j (by omega), b3, b4.lo fun j hj => h j (by omega), b5⟩, MW.lo h hb q⟩
/-- behind the last expression's place: the end of a law -/
noncomputable abbrev l12 (S : mS) (L : mJ) (D : Nat) (I : mI) (x y : Int32) (i : Int32) : Option (Option Value × zM) := evk zcod none D zc_X12_tellLaw 12 [(0, .ref 384), (1, .int x), (2, .int y), (3, .int i)] [] (S, I, L)
noncomputable abbrev l129 (S : mS) (L : mJ) (D : Nat) (I : mI) (x y : Int32) : Option (Option Value × zM) := evk zcod none D zc_X12_tellLaw 129 [(0, .ref 384), (1, .int x), (2, .int y)] [] (S, I, L)
noncomputable abbrev l156 (S : mS) (L : mJ) (D : Nat) (I : mI) (x y : Int32) : Option (Option Value × zM) := evk zcod none D zc_X12_tellLaw 156 [(0, .ref 384), (1, .int x), (2, .int y)] [] (S, I, L)
/-- what the reference has of a law that was told -/
def LMr (S : mS) (L : mJ) (K P : Nat → Int32) (D : Nat) (X : Option (Option Value × zM)) (I : mI) (x y : Int32) (B C q b : Nat) : LXr → Prop
  | Sum.inr (t, f) => ∃ J, X = some (none, (S, J, L)) ∧ Fi (lwF B C) I J ∧ MF J P t f
  | Sum.inl (t, r, e) => ∃ J, Fi (lwF B C) I J ∧ MSt J K P (tk K (nI 59) (t, 0)) ∧ (¬ (tk K (nI 59) (t, 0)).2 = 0 → X = some (none, (S, J, L))) ∧ ((tk K (nI 59) (t, 0)).2 = 0 → X = l156 S L D J x y ∧ ∃ qe last, J 384 44 = nI qe ∧ qe ≤ B + t ∧ q ≤ qe ∧ J 384 38 = nI last ∧ b < last ∧ 4 * last ≤ 4 * C + t + 1 ∧ MW J qe last b r e ∧ BL I J q ∧ BB I J b)
theorem m_lawBad (d : Nat) {S : mS} {I : mI} {L : mJ} {K V P : Nat → Int32} {B C : Nat} (G : Gd S) (hB : B ≤ 420) (k : TKM I K V P) {t f : Nat} (h : MF I P t f) {b : Nat} (hb : I 384 38 = nI b) (hb2 : b < 260) (hb3 : C ≤ b ∧ b < C + 130) (x y i : Int32) : ∃ J, l12 S L (d + 5) I x y i = some (none, (S, J, L)) ∧ Fi (lwF B C) I J ∧ MF J P t f := by
  have xb : zin (nI b) 260 = True := ixT hb2 (by omega)
  have xi : zix (nI b) = b := ixI (by omega)
  have f0 : ¬ f = 0 := by rcases h.2.1 with z | z <;> omega
  let I1 := uI I 409 b (nI 0)
  have f1 : Fi (lwF B C) I I1 := Fi.u Fi.rf (Or.inr (Or.inl ⟨by omega, by omega, hb3⟩))
  have m1 : MSt I1 K P (t, f) := Or.inr (h.cg (uI_off (by omega)) (uI_off (by omega)))
  obtain ⟨J, e, fj, m, w⟩ := m_term d (L := L) (B := B) (C := C) G hB (k.lw f1) (s := (t, f)) (s' := (t, f)) (l := []) m1 (Or.inr (Or.inr ⟨f0, rfl, rfl⟩)) 0 (fun z => absurd z f0) (b := b) ((uI_off (by omega)).trans hb) hb2 hb3
  obtain ⟨J2, e2, f2, m2⟩ := m_mustL (d + 2) (L := L) G ((k.lw f1).lw fj) m 59 4 kk_law.2.2.2.2.1.1 kk_law.2.2.2.2.1.2.2 kk_law.2.2.2.2.1.2.1
  have tke : tk K (nI 59) (t, f) = (t, f) := by
    unfold tk
    rw [if_neg f0]
  rw [tke] at m2
  have mf2 := m2.mf f0
  refine ⟨J2, ?_, (f1.tr fj).tr (f2.up fun _ _ => tkF_lw), mf2⟩
  have n1 : (nI 0 &&& nI 1 : Int32) = nI 0 := by decide +kernel
  unfold l12
  rw [B_X12_tellLaw_12]
  simp only [gM G, if_true, h.n0, not_false_iff]
  rw [B_X12_tellLaw_129]
  simp only [gM G, if_true, true_and, hb, xb, xi, n1]
  rw [show uI I 409 b (nI 0) = I1 from rfl, e]
  simp only [bV_eq, if_true, gM G, e2, mf2.gt, if_false]
theorem m_lawEnd (d : Nat) {S : mS} {I : mI} {L : mJ} {K V P : Nat → Int32} {B C : Nat} (G : Gd S) (hB : B ≤ 420) (hC : C ≤ 130) (hBC : ∀ b, C ≤ b → b < C + 130 → 420 * (b / 130) ≤ B) (k : TKM I K V P) {t q b : Nat} (h : MS I K t) (ho : I 384 12 = nI 0) (h44 : I 384 44 = nI q) (hq : B ≤ q ∧ q ≤ B + t) (hb : I 384 38 = nI b) (hb2 : C ≤ b ∧ 4 * b + 2 ≤ 4 * C + t) (x y : Int32) {res : LXr} (hr : LSX K V t res) : LMr S L K P (d + 5) (l129 S L (d + 5) I x y) I x y B C q b res := by
  obtain ⟨l, s', ex, e0⟩ := hr
  have ht := h.1
  have xb : zin (nI b) 260 = True := ixT (by omega) (by omega)
  have xi : zix (nI b) = b := ixI (by omega)
  let I1 := uI I 409 b (nI 0)
  have f1 : Fi (lwF B C) I I1 := Fi.u Fi.rf (Or.inr (Or.inl ⟨by omega, by omega, by omega⟩))
  have m1 : MSt I1 K P (t, 0) := Or.inl ⟨rfl, ⟨h.1, (uI_off (by omega)).trans h.2.1, (uI_off (by omega)).trans h.2.2.1, h.2.2.2⟩, (uI_off (by omega)).trans ho⟩
  obtain ⟨J, e, fj, m, w1, w2, w3, w4⟩ := m_term d (L := L) (C := C) G hB (k.lw f1) m1 ex q (fun _ => ⟨(uI_off (by omega)).trans h44, hq⟩) (b := b) ((uI_off (by omega)).trans hb) (by omega) (by omega)
  obtain ⟨J2, e2, f2, m2⟩ := m_mustL (d + 2) (L := L) G ((k.lw f1).lw fj) m 59 4 kk_law.2.2.2.2.1.1 kk_law.2.2.2.2.1.2.2 kk_law.2.2.2.2.1.2.1
  have F : Fi (lwF B C) I J2 := (f1.tr fj).tr (f2.up fun _ _ => tkF_lw)
  have n1 : (nI 0 &&& nI 1 : Int32) = nI 0 := by decide +kernel
  have walk : l129 S L (d + 5) I x y = if J2 384 13 ≤ nI 0 then l156 S L (d + 5) J2 x y else some (none, (S, J2, L)) := by
    unfold l129 l156
    rw [B_X12_tellLaw_129]
    simp only [gM G, if_true, true_and, hb, xb, xi, n1]
    rw [show uI I 409 b (nI 0) = I1 from rfl, e]
    simp only [bV_eq, if_true, gM G, e2]
  by_cases z : s'.2 = 0
  · rw [if_pos z] at e0
    subst e0
    have es : s' = (s'.1, 0) := by rw [← z]
    rw [es] at m2
    obtain ⟨o1, o2, o3, o4⟩ := LSX.ok k.2.2 ht ex z
    refine ⟨J2, F, m2, fun w => ?_, fun w => ⟨?_, ?_⟩⟩
    · rw [walk, if_neg (m2.mf w).gt]
    · rw [walk, if_pos (by rw [(m2.ms w).1.2.2.1]; exact Int32.le_refl _)]
    · obtain ⟨a1, a2, a3, a4, a5⟩ := w4 z
      have n409 : J2 409 b = nI 0 := by
        rw [f2 _ _ (by unfold tkF; omega), w3 409 (by omega) (by omega)]
        exact uI_same _ _ _ _
      refine ⟨q + l.length, b + 1, (f2 _ _ (by unfold tkF; omega)).trans a3, by omega, by omega, (f2 _ _ (by unfold tkF; omega)).trans w1, by omega, by omega, ⟨rfl, n409, q, q + l.length, (f2 _ _ (by unfold tkF; omega)).trans a1, (f2 _ _ (by unfold tkF; omega)).trans a2, rfl, Nat.le_refl _, a4.cg (fun j => f2 _ _ (by unfold tkF; omega)) (fun j => f2 _ _ (by unfold tkF; omega)), o4, by have := hBC b (by omega) (by omega); omega⟩, ?_, ?_⟩
      · exact ((BL.of (I := I) (J := I1) (fun j => uI_off (by omega)) (fun j => uI_off (by omega)) q).tr a5 (Nat.le_refl _)).tr (BL.of (fun j => f2 _ _ (by unfold tkF; omega)) (fun j => f2 _ _ (by unfold tkF; omega)) q) (Nat.le_refl _)
      · intro a p1 p2 j hj
        rw [f2 a j (by unfold tkF; omega), w2 a p1 p2 j hj]
        exact uI_ix (by omega)
  · rw [if_neg z] at e0
    subst e0
    have tke : tk K (nI 59) s' = s' := by
      unfold tk
      rw [if_neg z]
    rw [tke] at m2
    exact ⟨J2, by rw [walk, if_neg (m2.mf z).gt], F, m2.mf z⟩
theorem LMr.pre {S : mS} {L : mJ} {K P : Nat → Int32} {D : Nat} {X Y : Option (Option Value × zM)} {I I' : mI} {x y : Int32} {B C q q' b b' : Nat} {br : mBr} {res : LXr} (h : LMr S L K P D Y I' x y B C q' b' res) (e : X = Y) (f : Fi (lwF B C) I I') (h1 : BL I I' q) (h2 : q ≤ q') (h3 : BB I I' b) (h4 : b ≤ b') (hw : ∀ J qe last r e, Fi (lwF B C) I' J → BL I' J q' → BB I' J b' → q' ≤ qe → MW J qe last b' r e → b' < last → MW J qe last b (br :: r) e) : LMr S L K P D X I x y B C q b (cR br res) := by
  match res, h with
  | Sum.inr (t, f'), h =>
    obtain ⟨J, e1, f1, m⟩ := h
    exact ⟨J, e.trans e1, f.tr f1, m⟩
  | Sum.inl (t, r, e'), h =>
    obtain ⟨J, f1, m, n1, n2⟩ := h
    refine ⟨J, f.tr f1, m, fun z => e.trans (n1 z), fun z => ?_⟩
    obtain ⟨e1, qe, last, a1, a2, a3, a4, a5, a6, a7, a8, a9⟩ := n2 z
    exact ⟨e.trans e1, qe, last, a1, a2, by omega, a4, by omega, a6, hw J qe last r e' f1 a8 a9 a3 a7 a5, h1.tr a8 h2, h3.tr a9 h4⟩
theorem m_lawLoop {S : mS} {L : mJ} {K V P : Nat → Int32} {B C : Nat} (G : Gd S) (hB : B ≤ 420) (hC : C ≤ 130) (hBC : ∀ b, C ≤ b → b < C + 130 → 420 * (b / 130) ≤ B) (x y : Int32) : ∀ (n i d : Nat) (I : mI) (t q b : Nat) (res : LXr), i + n = 4 → LX K V n t res → TKM I K V P → MS I K t → I 384 12 = nI 0 → I 384 44 = nI q → B ≤ q ∧ q ≤ B + t → I 384 38 = nI b → C ≤ b ∧ 4 * b + 2 ≤ 4 * C + t → LMr S L K P (d + 5) (l12 S L (d + 5) I x y (nI i)) I x y B C q b res := by
  intro n
  induction n with
  | zero =>
    intro i d I t q b res hi hx k h ho h44 hq hb hb2
    have i4 : i = 4 := by omega
    subst i4
    have ki := m_is (d + 4) (L := L) G k h 138 kk_law.1.1 kk_law.1.2.1
    rcases hx with ⟨c, rfl⟩ | ⟨c, hx⟩
    · have m : MF (uI (uI I 384 13 (nI 2)) 384 14 (P t)) P t 2 := mf_of (K := K) (Or.inr rfl)
      refine ⟨_, ?_, Fi.u (Fi.u Fi.rf (Or.inl ⟨rfl, by omega⟩)) (Or.inl ⟨rfl, by omega⟩), m⟩
      unfold l12
      rw [B_X12_tellLaw_12]
      simp only [gM G, if_true, h.2.2.1, not_true, if_false, ki, bI_eq, c, z10, m_fail (d + 4) (L := L) G k h (f := 2) (Or.inr rfl), bV_eq]
      rw [B_X12_tellLaw_38]
      simp only [gM G, if_true, m.gt, if_false]
    · have e : l12 S L (d + 5) I x y (nI 4) = l129 S L (d + 5) I x y := by
        unfold l12 l129
        rw [B_X12_tellLaw_12]
        simp only [gM G, if_true, h.2.2.1, not_true, if_false, ki, bI_eq, c]
      rw [e]
      exact m_lawEnd d G hB hC hBC k h ho h44 hq hb hb2 x y hx
  | succ n ih =>
    intro i d I t q b res hi hx k h ho h44 hq hb hb2
    have ht := h.1
    have n4 : ¬ nI i = nI 4 := by
      rw [i_eq, t_nI (by omega), t_nI (by omega)]
      omega
    have ki := m_is (d + 4) (L := L) G k h 138 kk_law.1.1 kk_law.1.2.1
    rcases hx with ⟨c, a, bb, cc, s7, br, hs⟩ | ⟨c, hx⟩
    · have br' := br
      obtain ⟨s2, s4, s6, x2, x4, x6, e7⟩ := br'
      have xb : zin (nI b) 260 = True := ixT (by omega) (by omega)
      have xi : zix (nI b) = b := ixI (by omega)
      obtain ⟨J1, e1, f1, m1⟩ := m_goL (d + 3) (L := L) G k (Or.inl ⟨rfl, h, ho⟩) c kk_law.1.2.2
      have hs1 : (tk K (nI 138) (t, 0)).2 = 0 → (tk K (nI 138) (t, 0)).1 = t + 1 := fun z => by rw [(tk_ok z).2.2.2]
      have w38 : J1 384 38 = nI b := (f1 _ _ (by unfold tkF; omega)).trans hb
      have w44 : J1 384 44 = nI q := (f1 _ _ (by unfold tkF; omega)).trans h44
      have n11 : (nI 1 &&& nI 1 : Int32) = nI 1 := by decide +kernel
      have v38 : uI J1 409 b (nI 1) 384 38 = nI b := (uI_off (by omega)).trans w38
      have v44 : uI J1 409 b (nI 1) 384 44 = nI q := (uI_off (by omega)).trans w44
      let J2 := uI (uI J1 409 b (nI 1)) 410 b (nI q)
      have f2 : Fi (lwF B C) J1 J2 := Fi.u (Fi.u Fi.rf (Or.inr (Or.inl ⟨by omega, by omega, by omega⟩))) (Or.inr (Or.inl ⟨by omega, by omega, by omega⟩))
      have F2 : Fi (lwF B C) I J2 := (f1.up fun _ _ => tkF_lw).tr f2
      have m2 : MSt J2 K P (tk K (nI 138) (t, 0)) := m1.cg fun j _ _ => (uI_off (by omega)).trans (uI_off (by omega))
      obtain ⟨J3, e3, f3, m3, q3⟩ := m_exprL (d + 1) (L := L) G hB (k.lw F2) m2 x2 q (fun z => ⟨(uI_off (by omega)).trans v44, by rw [hs1 z]; omega⟩)
      have F3 := F2.tr (f3.up fun _ _ => exA_lw)
      obtain ⟨J4, e4, f4, m4⟩ := m_mustL (d + 2) (L := L) G (k.lw F3) m3 60 13 kk_law.2.1.1 kk_law.2.1.2.2 kk_law.2.1.2.1
      have F4 := F3.tr (f4.up fun _ _ => tkF_lw)
      have w4 : J4 384 38 = nI b := (f4 _ _ (by unfold tkF; omega)).trans ((f3 _ _ (by unfold exA; omega)).trans ((uI_off (by omega)).trans v38))
      have b2 : s2.2 = 0 → a.length + (t + 1) ≤ s2.1 := fun z => by
        have p := (x2.ok z).2
        rw [(tk_ok (x2.ok z).1).2.2.2] at p
        have lt := (tk_ok (x2.ok z).1).2.2.1
        have r := (p.pr k.2.2 (show t + 1 ≤ 400 from lt) (by omega)).2.2.1
        have r' : a.length + (t + 1) ≤ 0 + s2.1 := r
        omega
      have hs3 : (tk K (nI 60) s2).2 = 0 → s2.2 = 0 ∧ (tk K (nI 60) s2).1 = s2.1 + 1 := fun z => ⟨(tk_ok z).1, by rw [(tk_ok z).2.2.2]⟩
      let J5 := uI J4 411 b (J4 384 44)
      have f5 : Fi (lwF B C) J4 J5 := Fi.u Fi.rf (Or.inr (Or.inl ⟨by omega, by omega, by omega⟩))
      have F5 := F4.tr f5
      have m5 : MSt J5 K P (tk K (nI 60) s2) := m4.cg fun j _ _ => uI_off (by omega)
      have g4 : s2.2 = 0 → J4 384 44 = nI (q + a.length) := fun z => (f4 _ _ (by unfold tkF; omega)).trans (q3 z).1
      obtain ⟨J6, e6, f6, m6, q6⟩ := m_exprC (d + 1) (L := L) (I := J5) (X := l12 S L (d + 5) I x y (nI i)) (Y := bV (evM zcod (d + 5) 188 [.ref 384] (S, J5, L)) fun M1 => if M1.1.1 = S.1 then evk zcod none (d + 5) zc_X12_tellLaw 110 [(0, .ref 384), (1, .int x), (2, .int y), (3, .int (nI (i + 1)))] [] M1 else none) (W := fun J => evk zcod none (d + 5) zc_X12_tellLaw 110 [(0, .ref 384), (1, .int x), (2, .int y), (3, .int (nI (i + 1)))] [] (S, J, L)) G hB (k.lw F5) m5 x4 (q + a.length) (fun z => ⟨(uI_off (by omega)).trans (g4 (hs3 z).1), by rw [(hs3 z).2]; have := b2 (hs3 z).1; omega⟩) (by
        unfold l12
        rw [B_X12_tellLaw_12]
        simp only [gM G, if_true, h.2.2.1, not_true, if_false, ki, bI_eq, c, z10, n4, not_false_iff]
        rw [B_X12_tellLaw_38]
        simp only [gM G, if_true, h.2.2.1, Int32.le_refl]
        rw [B_X12_tellLaw_46]
        simp only [gM G, if_true, true_and, e1, bV_eq, w38, xb, xi, n11, v38, v44]
        rw [show uI (uI J1 409 b (nI 1)) 410 b (nI q) = J2 from rfl, e3]
        simp only [bV_eq, if_true, nI_add]
        rw [B_X12_tellLaw_80]
        simp only [gM G, if_true, true_and, e4, bV_eq, w4, xb, xi]
        rfl) (fun J e => by rw [e]; simp only [bV_eq, if_true])
      have F6 := F5.tr (f6.up fun _ _ => exA_lw)
      obtain ⟨J7, e7', f7, m7⟩ := m_mustL (d + 2) (L := L) G (k.lw F6) m6 139 31 kk_law.2.2.1.1 kk_law.2.2.1.2.2 kk_law.2.2.1.2.1
      have F7 := F6.tr (f7.up fun _ _ => tkF_lw)
      have b4 : s4.2 = 0 → a.length + bb.length + (t + 2) ≤ s4.1 ∧ s4.1 ≤ 400 := fun z => by
        have g := (x4.ok z).1
        have p := (x4.ok z).2
        rw [(tk_ok g).2.2.2] at p
        have lt := (tk_ok g).2.2.1
        have pr := p.pr k.2.2 (show s2.1 + 1 ≤ 400 from lt) (by omega)
        have r' : bb.length + (s2.1 + 1) ≤ 0 + s4.1 := pr.2.2.1
        have := b2 (tk_ok g).1
        have := pr.1
        omega
      have hs5 : (tk K (nI 139) s4).2 = 0 → s4.2 = 0 ∧ (tk K (nI 139) s4).1 = s4.1 + 1 := fun z => ⟨(tk_ok z).1, by rw [(tk_ok z).2.2.2]⟩
      have w7 : J7 384 38 = nI b := (f7 _ _ (by unfold tkF; omega)).trans ((f6 _ _ (by unfold exA; omega)).trans ((uI_off (by omega)).trans w4))
      have g7 : s4.2 = 0 → J7 384 44 = nI (q + a.length + bb.length) := fun z => (f7 _ _ (by unfold tkF; omega)).trans (q6 z).1
      obtain ⟨J8, e8, f8, m8, w8, bb8, st8, q8⟩ := m_term d (L := L) (C := C) G hB (k.lw F7) m7 x6 (q + a.length + bb.length) (fun z => ⟨g7 (hs5 z).1, by rw [(hs5 z).2]; have := b4 (hs5 z).1; omega⟩) w7 (by omega) (by omega)
      have F8 := F7.tr f8
      obtain ⟨J9, e9, f9, m9⟩ := m_mustL (d + 2) (L := L) G (k.lw F8) m8 140 32 kk_law.2.2.2.1.1 kk_law.2.2.2.1.2.2 kk_law.2.2.2.1.2.1
      have F9 := F8.tr (f9.up fun _ _ => tkF_lw)
      rw [← e7] at m9
      have w9 : J9 384 38 = nI (b + 1) := (f9 _ _ (by unfold tkF; omega)).trans w8
      have walk : l12 S L (d + 5) I x y (nI i) = l12 S L (d + 5) J9 x y (nI (i + 1)) := by
        rw [e6, B_X12_tellLaw_110]
        simp only [gM G, if_true, e7', bV_eq, e8, e9]
      rcases hs with ⟨z7, rfl⟩ | ⟨z7, res', hx', rfl⟩
      · obtain ⟨J, e, f, m⟩ := m_lawBad d (L := L) (B := B) (C := C) G hB (k.lw F9) (m9.mf z7) w9 (by omega) (by omega) x y (nI (i + 1))
        exact ⟨J, walk.trans e, F9.tr f, m⟩
      · obtain ⟨l1, l2, xa, xbb, xc⟩ := br.ok k.2.2 ht z7
        rw [e7] at z7
        obtain ⟨z6, _, lt6, t7⟩ := tk_ok z7
        obtain ⟨z5, _⟩ := x6.ok z6
        obtain ⟨z4, _, _, _⟩ := tk_ok z5
        obtain ⟨z3, _⟩ := x4.ok z4
        obtain ⟨z2, _, _, _⟩ := tk_ok z3
        rw [← e7] at z7
        obtain ⟨u1, u2, u3⟩ := q3 z2
        obtain ⟨v1, v2, v3⟩ := q6 z4
        obtain ⟨y1, y2, y3, y4, y5⟩ := q8 z6
        obtain ⟨ms, mo⟩ := m9.ms z7
        have B2 : BL I J2 q := BL.of (fun j => (uI_off (by omega)).trans ((uI_off (by omega)).trans (f1 _ _ (by unfold tkF; omega)))) (fun j => (uI_off (by omega)).trans ((uI_off (by omega)).trans (f1 _ _ (by unfold tkF; omega)))) q
        have B35 : ∀ p, BL J3 J5 p := fun p => BL.of (fun j => (uI_off (by omega)).trans (f4 _ _ (by unfold tkF; omega))) (fun j => (uI_off (by omega)).trans (f4 _ _ (by unfold tkF; omega))) p
        have B67 : ∀ p, BL J6 J7 p := fun p => BL.of (fun j => f7 _ _ (by unfold tkF; omega)) (fun j => f7 _ _ (by unfold tkF; omega)) p
        have B89 : ∀ p, BL J8 J9 p := fun p => BL.of (fun j => f9 _ _ (by unfold tkF; omega)) (fun j => f9 _ _ (by unfold tkF; omega)) p
        have B79 : BL J6 J9 (q + a.length + bb.length) := ((B67 _).tr y5 (Nat.le_refl _)).tr (B89 _) (Nat.le_refl _)
        have B39 : BL J3 J9 (q + a.length) := ((B35 _).tr v3 (Nat.le_refl _)).tr B79 (by omega)
        have B09 : BL I J9 q := (B2.tr u3 (Nat.le_refl _)).tr B39 (by omega)
        have at5 : ∀ p, 409 ≤ p → p ≤ 413 → J5 p b = if p = 411 then nI (q + a.length) else J2 p b := fun p p1 p2 => by
          by_cases z : p = 411
          · rw [if_pos z, z]
            exact (uI_same _ _ _ _).trans (g4 z2)
          · rw [if_neg z]
            exact (uI_off z).trans ((f4 _ _ (by unfold tkF; omega)).trans (f3 _ _ (by unfold exA; omega)))
        have at9 : ∀ p, 409 ≤ p → p ≤ 411 → J9 p b = J5 p b := fun p p1 p2 => (f9 _ _ (by unfold tkF; omega)).trans ((congrFun (st8 p p1 p2) b).trans ((f7 _ _ (by unfold tkF; omega)).trans (f6 _ _ (by unfold exA; omega))))
        have c9 : J9 409 b = nI 1 := by
          rw [at9 409 (by omega) (by omega), at5 409 (by omega) (by omega), if_neg (by omega)]
          exact (uI_off (by omega)).trans (uI_same _ _ _ _)
        have c10 : J9 410 b = nI q := by
          rw [at9 410 (by omega) (by omega), at5 410 (by omega) (by omega), if_neg (by omega)]
          exact uI_same _ _ _ _
        have c11 : J9 411 b = nI (q + a.length) := by
          rw [at9 411 (by omega) (by omega), at5 411 (by omega) (by omega), if_pos rfl]
        have c12 : J9 412 b = nI (q + a.length + bb.length) := (f9 _ _ (by unfold tkF; omega)).trans y1
        have c13 : J9 413 b = nI (q + a.length + bb.length + cc.length) := (f9 _ _ (by unfold tkF; omega)).trans y2
        have bb9 : BB I J9 b := fun p p1 p2 j hj => by
          rw [f9 _ _ (by unfold tkF; omega), bb8 p p1 p2 j hj, f7 _ _ (by unfold tkF; omega), f6 _ _ (by unfold exA; omega)]
          refine Eq.trans (uI_ix (by omega)) ?_
          rw [f4 _ _ (by unfold tkF; omega), f3 _ _ (by unfold exA; omega)]
          exact (uI_ix (by omega)).trans ((uI_ix (by omega)).trans (f1 _ _ (by unfold tkF; omega)))
        refine (ih (i + 1) d J9 s7.1 (q + a.length + bb.length + cc.length) (b + 1) res' (by omega) hx' (k.lw F9) ms mo ((f9 _ _ (by unfold tkF; omega)).trans y3) (by omega) w9 (by omega)).pre (br := (a, bb, cc)) walk F9 B09 (by omega) bb9 (by omega) ?_
        intro J qe last r e hf hbl hbb hqe hmw hlast
        have tr : ∀ p, 409 ≤ p → p ≤ 413 → J p b = J9 p b := fun p p1 p2 => hbb p p1 p2 b (by omega)
        refine ⟨by omega, (tr 409 (by omega) (by omega)).trans c9, ⟨q, q + a.length, q + a.length + bb.length, q + a.length + bb.length + cc.length, (tr 410 (by omega) (by omega)).trans c10, (tr 411 (by omega) (by omega)).trans c11, (tr 412 (by omega) (by omega)).trans c12, (tr 413 (by omega) (by omega)).trans c13, rfl, rfl, rfl, hqe, ?_, xa, ?_, xbb, ?_, xc, by have := hBC b (by omega) (by omega); omega⟩, hmw⟩
        · exact (u2.lo fun j hj => B39 j hj).lo fun j hj => hbl j (by omega)
        · exact (v2.lo fun j hj => B79 j hj).lo fun j hj => hbl j (by omega)
        · exact (y4.lo fun j hj => B89 _ j hj).lo fun j hj => hbl j (by omega)
    · have e : l12 S L (d + 5) I x y (nI i) = l129 S L (d + 5) I x y := by
        unfold l12 l129
        rw [B_X12_tellLaw_12]
        simp only [gM G, if_true, h.2.2.1, not_true, if_false, ki, bI_eq, c]
      rw [e]
      exact m_lawEnd d G hB hC hBC k h ho h44 hq hb hb2 x y hx
