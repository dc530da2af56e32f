/-! a law, reference side -/
def MSt (I : mI) (K P : Nat → Int32) (s : mSt) : Prop := (s.2 = 0 ∧ MS I K s.1 ∧ I 384 12 = nI 0) ∨ MF I P s.1 s.2
theorem MSt.ms {I : mI} {K P : Nat → Int32} {s : mSt} (h : MSt I K P s) (q : s.2 = 0) : MS I K s.1 ∧ I 384 12 = nI 0 := by
  rcases h with h | h
  · exact h.2
  · rcases h.2.1 with z | z <;> (rw [z] at q; cases q)
theorem MSt.mf {I : mI} {K P : Nat → Int32} {s : mSt} (h : MSt I K P s) (q : ¬ s.2 = 0) : MF I P s.1 s.2 := h.resolve_left fun z => q z.1
def tkF (a j : Nat) : Prop := a = 384 ∧ 11 ≤ j ∧ j ≤ 14
theorem MSt.cg {I J : mI} {K P : Nat → Int32} {s : mSt} (h : MSt I K P s) (e : ∀ j, 11 ≤ j → j ≤ 14 → J 384 j = I 384 j) : MSt J K P s := by
  rcases h with ⟨h1, h2, h3⟩ | h
  · exact Or.inl ⟨h1, ⟨h2.1, (e 11 (by omega) (by omega)).trans h2.2.1, (e 13 (by omega) (by omega)).trans h2.2.2.1, h2.2.2.2⟩, (e 12 (by omega) (by omega)).trans h3⟩
  · exact Or.inr (h.cg (e 13 (by omega) (by omega)) (e 14 (by omega) (by omega)))
theorem m_goL (d : Nat) {S : mS} {I : mI} {L : mJ} {K V P : Nat → Int32} (G : Gd S) (k : TKM I K V P) {t : Nat} (h : MSt I K P (t, 0)) {x : Int32} (hx : K t = x) (h0 : ¬ x = nI 0) : ∃ J, evM zcod (d + 2) 170 [.ref 384] (S, I, L) = some (none, (S, J, L)) ∧ Fi tkF I J ∧ MSt J K P (tk K x (t, 0)) := by
  obtain ⟨hm, ho⟩ := h.ms rfl
  by_cases ht : t < 400
  · refine ⟨_, m_goesOn (d + 1) (L := L) G hm ht, Fi.u Fi.rf ⟨rfl, by omega, by omega⟩, ?_⟩
    have e : tk K x (t, 0) = (t + 1, 0) := by
      unfold tk
      rw [if_pos rfl, if_pos hx, if_pos ht]
    rw [e]
    exact Or.inl ⟨rfl, hm.go ht (by rw [hx]; exact h0), (uI_ix (by omega)).trans ho⟩
  · refine ⟨_, m_goesOn_full d (L := L) G k hm ht, Fi.u (Fi.u Fi.rf ⟨rfl, by omega, by omega⟩) ⟨rfl, by omega, by omega⟩, ?_⟩
    have e : tk K x (t, 0) = (t, 2) := by
      unfold tk
      rw [if_pos rfl, if_pos hx, if_neg ht]
    rw [e]
    exact Or.inr (mf_of (K := K) (Or.inr rfl))
theorem m_mustL (d : Nat) {S : mS} {I : mI} {L : mJ} {K V P : Nat → Int32} (G : Gd S) (k : TKM I K V P) {s : mSt} (h : MSt I K P s) (x y : Nat) (hx : x ∈ kKs) (h0 : ¬ nI x = nI 0) (hy : gkN x = y) : ∃ J, evM zcod (d + 3) 171 [.ref 384, .int (nI y)] (S, I, L) = some (none, (S, J, L)) ∧ Fi tkF I J ∧ MSt J K P (tk K (nI x) s) := by
  rw [E_X12_must, B_X12_must_0]
  by_cases q : s.2 = 0
  · obtain ⟨hm, ho⟩ := h.ms q
    simp only [gM G, if_true, m_is (d + 1) (L := L) G k hm x hx hy, bI_eq]
    have es : s = (s.1, 0) := by rw [← q]
    by_cases c : K s.1 = nI x
    · obtain ⟨J, e, f, m⟩ := m_goL d (L := L) G k (by rw [← es]; exact h) c h0
      refine ⟨J, ?_, f, by rw [es]; exact m⟩
      rw [if_pos c, if_neg z10]
      simp only [gM G, if_true, e, bV_eq]
      rw [B_X12_must_20]
    · refine ⟨_, ?_, Fi.u (Fi.u (k := 13) (x := nI 1) Fi.rf ⟨rfl, by omega, by omega⟩) (k := 14) (x := P s.1) ⟨rfl, by omega, by omega⟩, ?_⟩
      · rw [if_neg c, if_pos rfl, B_X12_must_15]
        simp only [gM G, if_true, m_fail (d + 1) (L := L) G k hm (f := 1) (Or.inl rfl), bV_eq]
        rw [B_X12_must_20]
      · have e : tk K (nI x) s = (s.1, 1) := by
          unfold tk
          rw [if_pos q, if_neg c]
        rw [e]
        exact Or.inr (mf_of (K := K) (Or.inl rfl))
  · have hf := h.mf q
    refine ⟨I, ?_, Fi.rf, ?_⟩
    · simp only [gM G, if_true, m_is_bad (d + 1) (L := L) G hf.n0, bI_eq]
      rw [B_X12_must_15]
      simp only [gM G, if_true, m_fail_bad (d + 1) (L := L) G hf.gt, bV_eq]
      rw [B_X12_must_20]
    · have e : tk K (nI x) s = s := by
        unfold tk
        rw [if_neg q]
      rw [e]
      exact h
/-- expression(), with or without a fault -/
theorem m_exprL (d : Nat) {S : mS} {I : mI} {L : mJ} {K V P : Nat → Int32} {B : Nat} (G : Gd S) (hB : B ≤ 420) (k : TKM I K V P) {s s' : mSt} {l : List Int32} (h : MSt I K P s) (x : EXR K V s l s') (q : Nat) (hq : s.2 = 0 → I 384 44 = nI q ∧ B ≤ q ∧ q ≤ B + s.1) : ∃ J, evM zcod (d + 4) 188 [.ref 384] (S, I, L) = some (none, (S, J, L)) ∧ Fi (exA B) I J ∧ MSt J K P s' ∧ (s'.2 = 0 → J 384 44 = nI (q + l.length) ∧ CM J q l ∧ BL I J q) := by
  rcases x with ⟨x1, x2, x3⟩ | ⟨x1, x2, x3, x4⟩ | ⟨x1, x2, x3⟩
  · obtain ⟨hm, ho⟩ := h.ms x1
    obtain ⟨g1, g2⟩ := hq x1
    obtain ⟨J, e, f, a1, a2, a3, a4, a5⟩ := m_expression d (L := L) G hB k x3 hm ho g1 g2
    exact ⟨J, e, f, Or.inl ⟨x2, a1, a2⟩, fun _ => ⟨a3, a4, a5⟩⟩
  · obtain ⟨hm, ho⟩ := h.ms x1
    obtain ⟨g1, g2⟩ := hq x1
    obtain ⟨J, e, f, a1⟩ := m_expression d (L := L) G hB k x3 hm ho g1 g2
    exact ⟨J, e, f, Or.inr a1, fun z => absurd z x2⟩
  · have hf := h.mf x1
    refine ⟨uI I 384 48 (nI 0), ?_, Fi.u Fi.rf (Or.inl ⟨rfl, by omega⟩), ?_, fun z => absurd z (by rw [x2]; exact x1)⟩
    · have n0 : ¬ uI I 384 48 (nI 0) 384 13 = nI 0 := by rw [uI_ix (by omega)]; exact hf.n0
      rw [E_X12_expression, B_X12_expression_0]
      simp only [gM G, if_true]
      rw [B_X12_expression_12, if_neg z10]
      simp only [gM G, if_true, n0, not_false_iff]
      rw [B_X12_expression_272]
    · rw [x2]
      exact h.cg fun j _ _ => uI_ix (by omega)
/-- if (fault == 0) expression() -/
theorem m_exprC (d : Nat) {S : mS} {I : mI} {L : mJ} {K V P : Nat → Int32} {B : Nat} (G : Gd S) (hB : B ≤ 420) (k : TKM I K V P) {s s' : mSt} {l : List Int32} (h : MSt I K P s) (x : EXR K V s l s') (q : Nat) (hq : s.2 = 0 → I 384 44 = nI q ∧ B ≤ q ∧ q ≤ B + s.1) {X Y : Option (Option Value × zM)} {W : mI → Option (Option Value × zM)} (hX : X = if ¬ I 384 13 = nI 0 then W I else Y) (hY : ∀ J, evM zcod (d + 4) 188 [.ref 384] (S, I, L) = some (none, (S, J, L)) → Y = W J) : ∃ J, X = W J ∧ Fi (exA B) I J ∧ MSt J K P s' ∧ (s'.2 = 0 → J 384 44 = nI (q + l.length) ∧ CM J q l ∧ BL I J q) := by
  by_cases z : s.2 = 0
  · obtain ⟨J, e, r⟩ := m_exprL d (L := L) G hB k h x q hq
    exact ⟨J, by rw [hX, if_neg (fun w => w (h.ms z).1.2.2.1), hY J e], r⟩
  · have hf := h.mf z
    rcases x with ⟨x1, _⟩ | ⟨x1, _⟩ | ⟨x1, x2, x3⟩
    · exact absurd x1 z
    · exact absurd x1 z
    · exact ⟨I, by rw [hX, if_pos hf.n0], Fi.rf, by rw [x2]; exact h, fun w => absurd w (by rw [x2]; exact z)⟩
def lwF (B C a j : Nat) : Prop := a = 384 ∧ (11 ≤ j ∧ j ≤ 14 ∨ j = 38 ∨ j = 44 ∨ j = 48) ∨ 409 ≤ a ∧ a ≤ 413 ∧ (C ≤ j ∧ j < C + 130) ∨ (a = 414 ∨ a = 415) ∧ (B ≤ j ∧ j < B + 420) ∨ a = 416
theorem exA_lw {B C a j : Nat} (h : exA B a j) : lwF B C a j := by unfold exA at h; unfold lwF; omega
theorem tkF_lw {B C a j : Nat} (h : tkF a j) : lwF B C a j := by unfold tkF at h; unfold lwF; omega
theorem TKM.lw {I J : mI} {K V P : Nat → Int32} {B C : Nat} (h : TKM I K V P) (f : Fi (lwF B C) I J) : TKM J K V P := h.cg fun a p q j => f a j (by unfold lwF; omega)
/-- branches below b as they were -/
def BB (I J : mI) (b : Nat) : Prop := ∀ a, 409 ≤ a → a ≤ 413 → ∀ j, j < b → J a j = I a j
theorem BB.rf {I : mI} {b : Nat} : BB I I b := fun _ _ _ _ _ => rfl
theorem BB.tr {I J M : mI} {b c : Nat} (h : BB I J b) (h2 : BB J M c) (q : b ≤ c) : BB I M b := fun a p1 p2 j hj => (h2 a p1 p2 j (by omega)).trans (h a p1 p2 j hj)
theorem BB.of {I J : mI} (e : ∀ a, 409 ≤ a → a ≤ 413 → J a = I a) (b : Nat) : BB I J b := fun a p1 p2 j _ => congrFun (e a p1 p2) j
theorem m_term (d : Nat) {S : mS} {I : mI} {L : mJ} {K V P : Nat → Int32} {B C : Nat} (G : Gd S) (hB : B ≤ 420) (k : TKM I K V P) {s s' : mSt} {l : List Int32} (h : MSt I K P s) (x : EXR K V s l s') (q : Nat) (hq : s.2 = 0 → I 384 44 = nI q ∧ B ≤ q ∧ q ≤ B + s.1) {b : Nat} (hb : I 384 38 = nI b) (hb2 : b < 260) (hb3 : C ≤ b ∧ b < C + 130) : ∃ J, evM zcod (d + 5) 185 [.ref 384] (S, I, L) = some (none, (S, J, L)) ∧ Fi (lwF B C) I J ∧ MSt J K P s' ∧ J 384 38 = nI (b + 1) ∧ BB I J b ∧ (∀ a, 409 ≤ a → a ≤ 411 → J a = I a) ∧ (s'.2 = 0 → J 412 b = nI q ∧ J 413 b = nI (q + l.length) ∧ J 384 44 = nI (q + l.length) ∧ CM J q l ∧ BL I J q) := by
  have xb : zin (nI b) 260 = True := ixT hb2 (by omega)
  have xi : zix (nI b) = b := ixI (by omega)
  let I1 := uI I 412 b (I 384 44)
  have f1 : Fi (lwF B C) I I1 := Fi.u Fi.rf (Or.inr (Or.inl ⟨by omega, by omega, hb3⟩))
  have h1 : MSt I1 K P s := h.cg fun j _ _ => uI_off (by omega)
  have k1 := k.lw f1
  have c1 : I1 384 44 = I 384 44 := uI_off (by omega)
  have b1' : I1 384 38 = nI b := (uI_off (by omega)).trans hb
  have w24 : ∀ J : mI, J 384 38 = nI b → evk zcod none (d + 4) zc_X12_term 24 [(0, .ref 384)] [] (S, J, L) = some (none, (S, uI (uI J 413 b (J 384 44)) 384 38 (nI (b + 1)), L)) := by
    intro J hJ
    have q2 : uI J 413 b (J 384 44) 384 38 = nI b := (uI_off (by omega)).trans hJ
    rw [B_X12_term_24]
    simp only [gM G, if_true, true_and, hJ, xb, xi, q2, nI_add]
  obtain ⟨J, e, f, m, r⟩ := m_exprC d (L := L) (X := evM zcod (d + 5) 185 [.ref 384] (S, I, L)) (Y := bV (evM zcod (d + 4) 188 [.ref 384] (S, I1, L)) fun M1 => if M1.1.1 = S.1 then evk zcod none (d + 4) zc_X12_term 24 [(0, .ref 384)] [] M1 else none) (W := fun J => evk zcod none (d + 4) zc_X12_term 24 [(0, .ref 384)] [] (S, J, L)) G hB k1 h1 x q (fun z => ⟨c1.trans (hq z).1, (hq z).2⟩) (by
    rw [E_X12_term, B_X12_term_0]
    simp only [gM G, if_true, true_and, hb, xb, xi]
    rfl) (fun J e => by rw [e]; simp only [bV_eq, if_true])
  have hbJ : J 384 38 = nI b := (f _ _ (by unfold exA; omega)).trans b1'
  refine ⟨_, e.trans (w24 J hbJ), (f1.tr (f.up fun _ _ => exA_lw)).tr (Fi.u (Fi.u (r := 413) (k := b) (x := J 384 44) Fi.rf (Or.inr (Or.inl ⟨by omega, by omega, hb3⟩))) (r := 384) (k := 38) (x := nI (b + 1)) (Or.inl ⟨rfl, by omega⟩)), m.cg fun j _ _ => (uI_ix (by omega)).trans (uI_off (by omega)), uI_same _ _ _ _, fun a p1 p2 j hj => ?_, fun a p1 p2 => funext fun j => ?_, fun z => ?_⟩
  · rw [uI_off (by omega), uI_ix (by omega), f a j (by unfold exA; omega)]
    exact uI_ix (by omega)
  · rw [uI_off (by omega), uI_off (by omega), f a j (by unfold exA; omega)]
    exact uI_off (by omega)
  · obtain ⟨r1, r2, r3⟩ := r z
    have z0 : s.2 = 0 := (x.ok z).1
    refine ⟨?_, ?_, ?_, r2.cg (fun j => (uI_off (by omega)).trans (uI_off (by omega))) (fun j => (uI_off (by omega)).trans (uI_off (by omega))), ?_⟩
    · rw [uI_off (by omega), uI_off (by omega), f 412 b (by unfold exA; omega)]
      exact (uI_same _ _ _ _).trans (hq z0).1
    · rw [uI_off (by omega), uI_same, r1]
    · rw [uI_ix (by omega), uI_off (by omega), r1]
    · exact ((BL.of (I := I) (J := I1) (fun j => uI_off (by omega)) (fun j => uI_off (by omega)) q).tr r3 (Nat.le_refl _)).tr (BL.of (fun j => (uI_off (by omega)).trans (uI_off (by omega))) (fun j => (uI_off (by omega)).trans (uI_off (by omega))) q) (Nat.le_refl _)
