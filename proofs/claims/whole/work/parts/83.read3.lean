/-! reading, reference side: tokens, faults, code, operators that wait -/
/-- the kinds that there are -/
def kKs : List Nat := [0, 1, 2, 3, 40, 41, 42, 43, 45, 47, 59, 60, 61, 128, 129, 130, 131, 132, 133, 134, 135, 136, 137, 138, 139, 140, 141, 142, 143, 144, 145, 146, 147, 148, 149]
/-- a kind of the class's, as the reference tells it -/
def gkN (n : Nat) : Nat := if 128 ≤ n then n - 108 else match n with
  | 0 => 0 | 1 => 3 | 2 => 1 | 3 => 2 | 40 => 6 | 41 => 7 | 42 => 10 | 43 => 8 | 45 => 9 | 47 => 15 | 59 => 4 | 60 => 13 | 61 => 5 | _ => 99
def gk (x : Int32) : Int32 := nI (gkN x.toInt.toNat)
def KOK (x : Int32) : Prop := ∃ n, n ∈ kKs ∧ x = nI n
theorem kK_lt : ∀ n, n ∈ kKs → n < 150 := by decide +kernel
theorem gkN_inj : ∀ n, n ∈ kKs → ∀ m, m ∈ kKs → gkN n = gkN m → n = m := by decide +kernel
theorem gkN_lt : ∀ n, n ∈ kKs → gkN n < 42 := by decide +kernel
theorem gk_nI {n : Nat} (h : n < 150) : gk (nI n) = nI (gkN n) := by
  unfold gk
  rw [t_nI (by omega)]
  rfl
theorem gk_eq {x y : Int32} (hx : KOK x) (hy : KOK y) : gk x = gk y ↔ x = y := by
  obtain ⟨n, h1, rfl⟩ := hx
  obtain ⟨m, h2, rfl⟩ := hy
  have l1 := kK_lt n h1
  have l2 := kK_lt m h2
  rw [gk_nI l1, gk_nI l2]
  have l3 := gkN_lt n h1
  have l4 := gkN_lt m h2
  constructor
  · intro q
    rw [i_eq, t_nI (by omega), t_nI (by omega)] at q
    rw [gkN_inj n h1 m h2 (by omega)]
  · intro q
    rw [i_eq, t_nI (by omega), t_nI (by omega)] at q
    rw [show n = m by omega]
/-- no end before t -/
def NE (K : Nat → Int32) (t : Nat) : Prop := ∀ j, j < t → ¬ K j = nI 0
theorem NE.up {K : Nat → Int32} {t : Nat} (h : NE K t) (q : ¬ K t = nI 0) : NE K (t + 1) := fun j hj => by
  by_cases e : j = t
  · rw [e]; exact q
  · exact h j (by omega)
/-- what holds of the reference's tokens all along -/
def TKM (I : mI) (K V P : Nat → Int32) : Prop := (∀ i, i ≤ 400 → NE K i → I 387 i = gk (K i) ∧ I 388 i = P i ∧ (K i = nI 3 → I 389 i = V i)) ∧ (∀ t, KOK (K t)) ∧ ∀ t, K t = nI 3 → nI 0 ≤ V t
def MS (I : mI) (K : Nat → Int32) (t : Nat) : Prop := t ≤ 400 ∧ I 384 11 = nI t ∧ I 384 13 = nI 0 ∧ NE K t
def MF (I : mI) (P : Nat → Int32) (t f : Nat) : Prop := I 384 13 = nI f ∧ (f = 1 ∨ f = 2) ∧ I 384 14 = P t
theorem MF.n0 {I : mI} {P : Nat → Int32} {t f : Nat} (h : MF I P t f) : ¬ I 384 13 = nI 0 := by
  rcases h.2.1 with q | q <;> (rw [h.1, q]; decide +kernel)
theorem MF.gt {I : mI} {P : Nat → Int32} {t f : Nat} (h : MF I P t f) : ¬ I 384 13 ≤ nI 0 := by
  rcases h.2.1 with q | q <;> (rw [h.1, q]; decide +kernel)
theorem MF.cg {I J : mI} {P : Nat → Int32} {t f : Nat} (h : MF I P t f) (e1 : J 384 13 = I 384 13) (e2 : J 384 14 = I 384 14) : MF J P t f := ⟨e1.trans h.1, h.2.1, e2.trans h.2.2⟩
theorem TKM.cg {I J : mI} {K V P : Nat → Int32} (h : TKM I K V P) (e : ∀ a, 387 ≤ a → a ≤ 389 → ∀ j, J a j = I a j) : TKM J K V P :=
  ⟨fun i hi hn => ⟨(e _ (by omega) (by omega) _).trans (h.1 i hi hn).1, (e _ (by omega) (by omega) _).trans (h.1 i hi hn).2.1, fun q => (e _ (by omega) (by omega) _).trans ((h.1 i hi hn).2.2 q)⟩, h.2⟩
theorem m_is (d : Nat) {S : mS} {I : mI} {L : mJ} {K V P : Nat → Int32} (G : Gd S) (k : TKM I K V P) {t : Nat} (h : MS I K t) (x : Nat) (hx : x ∈ kKs) {y : Nat} (hy : gkN x = y) : evM zcod (d + 1) 167 [.ref 384, .int (nI y)] (S, I, L) = some (some (.int (if K t = nI x then nI 1 else nI 0)), (S, I, L)) := by
  obtain ⟨h1, h2, h3, h4⟩ := h
  have kt := (k.1 t h1 h4).1
  have e : gk (K t) = nI y ↔ K t = nI x := by
    have q := gk_eq (k.2.1 t) (y := nI x) ⟨x, hx, rfl⟩
    rw [gk_nI (kK_lt x hx), hy] at q
    exact q
  rw [E_X12_is]
  simp only [B_X12_is_0, B_X12_is_24, B_X12_is_25, gM G, if_true, true_and, h3, not_true, if_false, h2, ixT (show t < 403 by omega) (by omega : 403 < 2147483648), ixI (show t < 2147483648 by omega), kt, b0, b1, e]
  by_cases c : K t = nI x
  · rw [if_neg (fun q => q c), if_pos c]
  · rw [if_pos c, if_neg c]
theorem m_is_bad (d : Nat) {S : mS} {I : mI} {L : mJ} (G : Gd S) (h : ¬ I 384 13 = nI 0) (y : Int32) : evM zcod (d + 1) 167 [.ref 384, .int y] (S, I, L) = some (some (.int (nI 0)), (S, I, L)) := by
  rw [E_X12_is]
  simp only [B_X12_is_0, B_X12_is_24, B_X12_is_25, gM G, if_true, h, not_false_iff, b0]
theorem m_fail (d : Nat) {S : mS} {I : mI} {L : mJ} {K V P : Nat → Int32} (G : Gd S) (k : TKM I K V P) {t f : Nat} (h : MS I K t) (hf : f = 1 ∨ f = 2) : evM zcod (d + 1) 168 [.ref 384, .int (nI f)] (S, I, L) = some (none, (S, uI (uI I 384 13 (nI f)) 384 14 (P t), L)) := by
  obtain ⟨h1, h2, h3, h4⟩ := h
  have e1 : uI I 384 13 (nI f) 384 11 = nI t := (uI_ix (by omega)).trans h2
  have e2 : uI I 384 13 (nI f) 388 t = P t := (uI_off (by omega)).trans (k.1 t h1 h4).2.1
  rw [E_X12_fail]
  simp only [B_X12_fail_0, B_X12_fail_8, gM G, if_true, true_and, h3, Int32.le_refl, e1, ixT (show t < 403 by omega) (by omega : 403 < 2147483648), ixI (show t < 2147483648 by omega), e2]
theorem mf_of {I : mI} {K P : Nat → Int32} {t f : Nat} (hf : f = 1 ∨ f = 2) : MF (uI (uI I 384 13 (nI f)) 384 14 (P t)) P t f := ⟨(uI_ix (by omega)).trans (uI_same _ _ _ _), hf, uI_same _ _ _ _⟩
theorem m_fail_bad (d : Nat) {S : mS} {I : mI} {L : mJ} (G : Gd S) (h : ¬ I 384 13 ≤ nI 0) (x : Int32) : evM zcod (d + 1) 168 [.ref 384, .int x] (S, I, L) = some (none, (S, I, L)) := by
  rw [E_X12_fail]
  simp only [B_X12_fail_0, B_X12_fail_8, gM G, if_true, h, if_false]
theorem m_goesOn (d : Nat) {S : mS} {I : mI} {L : mJ} {K : Nat → Int32} (G : Gd S) {t : Nat} (h : MS I K t) (ht : t < 400) : evM zcod (d + 1) 170 [.ref 384] (S, I, L) = some (none, (S, uI I 384 11 (nI (t + 1)), L)) := by
  obtain ⟨h1, h2, h3, h4⟩ := h
  have ne : ¬ nI t = nI 400 := by
    rw [i_eq, t_nI (by omega), t_nI (by omega)]
    omega
  rw [E_X12_goesOn]
  simp only [B_X12_goesOn_0, B_X12_goesOn_18, B_X12_goesOn_28, gM G, if_true, h2, ne, not_false_iff, nI_add]
theorem m_goesOn_full (d : Nat) {S : mS} {I : mI} {L : mJ} {K V P : Nat → Int32} (G : Gd S) (k : TKM I K V P) {t : Nat} (h : MS I K t) (ht : ¬ t < 400) : evM zcod (d + 2) 170 [.ref 384] (S, I, L) = some (none, (S, uI (uI I 384 13 (nI 2)) 384 14 (P t), L)) := by
  have e := m_fail d (L := L) G k h (f := 2) (Or.inr rfl)
  obtain ⟨h1, h2, h3, h4⟩ := h
  have t4 : t = 400 := by omega
  subst t4
  rw [E_X12_goesOn]
  simp only [B_X12_goesOn_0, B_X12_goesOn_18, B_X12_goesOn_28, gM G, if_true, h2, not_true, if_false, e, bV_eq]
/-- with a fault it may go on, but nothing else -/
theorem m_goesOn_bad (d : Nat) {S : mS} {I : mI} {L : mJ} (G : Gd S) (h : ¬ I 384 13 ≤ nI 0) : ∃ J, evM zcod (d + 2) 170 [.ref 384] (S, I, L) = some (none, (S, J, L)) ∧ Fi (fun a j => a = 384 ∧ j = 11) I J := by
  rw [E_X12_goesOn]
  by_cases c : I 384 11 = nI 400
  · refine ⟨I, ?_, Fi.rf⟩
    simp only [B_X12_goesOn_0, B_X12_goesOn_18, B_X12_goesOn_28, gM G, if_true, c, not_true, if_false, m_fail_bad _ G h, bV_eq]
  · refine ⟨_, ?_, Fi.u (x := I 384 11 + nI 1) Fi.rf ⟨rfl, rfl⟩⟩
    simp only [B_X12_goesOn_0, B_X12_goesOn_18, B_X12_goesOn_28, gM G, if_true, c, not_false_iff]
theorem MS.go {I : mI} {K : Nat → Int32} {t : Nat} (h : MS I K t) (ht : t < 400) (q : ¬ K t = nI 0) : MS (uI I 384 11 (nI (t + 1))) K (t + 1) := ⟨by omega, uI_same _ _ _ _, (uI_ix (by omega)).trans h.2.2.1, h.2.2.2.up q⟩
/-- what waits, the top first -/
def WST (I : mI) : List Int32 → Prop
  | [] => True
  | x :: w => I 416 w.length = x ∧ WST I w
theorem WST.cg {I J : mI} : ∀ {w : List Int32}, WST I w → (∀ j, j < w.length → J 416 j = I 416 j) → WST J w
  | [], _, _ => trivial
  | x :: w, h, e => ⟨(e _ (Nat.lt_succ_self _)).trans h.1, WST.cg h.2 fun j hj => e j (Nat.lt_succ_of_lt hj)⟩
/-- an operator's cell -/
def opc (w : Int32) : Int32 := if w = nI 8 then -1 else if w = nI 9 then -2 else if w = nI 10 then -3 else -4
def emA (B a j : Nat) : Prop := (a = 414 ∨ a = 415) ∧ B ≤ j ∧ j < B + 420 ∨ a = 384 ∧ j = 44
theorem m_emit (d : Nat) {S : mS} {I : mI} {L : mJ} (G : Gd S) {q : Nat} (h : I 384 44 = nI q) (hq : q < 840) (x y : Int32) : evM zcod (d + 1) 186 [.ref 384, .int x, .int y] (S, I, L) = some (none, (S, uI (uI (uI I 414 q x) 415 q y) 384 44 (nI (q + 1)), L)) := by
  have e1 : uI I 414 q x 384 44 = nI q := (uI_off (by omega)).trans h
  have e2 : uI (uI I 414 q x) 415 q y 384 44 = nI q := (uI_off (by omega)).trans e1
  rw [E_X12_emit]
  simp only [B_X12_emit_0, gM G, if_true, true_and, h, ixT hq (by omega : 840 < 2147483648), ixI (show q < 2147483648 by omega), e1, e2, nI_add]
theorem em_fi (I : mI) (q : Nat) (x y z : Int32) {B : Nat} (hq : B ≤ q ∧ q < B + 420) : Fi (emA B) I (uI (uI (uI I 414 q x) 415 q y) 384 44 z) := Fi.u (Fi.u (Fi.u Fi.rf (Or.inl ⟨Or.inl rfl, hq⟩)) (Or.inl ⟨Or.inr rfl, hq⟩)) (Or.inr ⟨rfl, rfl⟩)
theorem CM.app {I : mI} : ∀ {a b : List Int32} {p : Nat}, CM I p a → CM I (p + a.length) b → CM I p (a ++ b)
  | [], _, _, _, h => h
  | _ :: a, b, p, h1, h2 => ⟨h1.1, h1.2.1, h1.2.2.1, CM.app h1.2.2.2 (by rw [show p + 1 + a.length = p + (a.length + 1) by omega]; exact h2)⟩
theorem CM.lo {I J : mI} : ∀ {a : List Int32} {p : Nat}, CM I p a → (∀ j, j < p + a.length → J 414 j = I 414 j ∧ J 415 j = I 415 j) → CM J p a
  | [], _, _, _ => trivial
  | _ :: a, p, h, e => ⟨((e p (by show p < p + (a.length + 1); omega)).1).trans h.1, ((e p (by show p < p + (a.length + 1); omega)).2).trans h.2.1, h.2.2.1, CM.lo h.2.2.2 fun j q2 => e j (by show j < p + (a.length + 1); omega)⟩
/-- codes below q as they were -/
def BL (I J : mI) (q : Nat) : Prop := ∀ j, j < q → J 414 j = I 414 j ∧ J 415 j = I 415 j
theorem BL.rf {I : mI} {q : Nat} : BL I I q := fun _ _ => ⟨rfl, rfl⟩
theorem BL.tr {I J K : mI} {q p : Nat} (h : BL I J q) (h2 : BL J K p) (e : q ≤ p) : BL I K q := fun j hj => ⟨(h2 j (by omega)).1.trans (h j hj).1, (h2 j (by omega)).2.trans (h j hj).2⟩
theorem BL.of {I J : mI} (e : ∀ j, J 414 j = I 414 j) (e2 : ∀ j, J 415 j = I 415 j) (q : Nat) : BL I J q := fun j _ => ⟨e j, e2 j⟩
theorem em_bl (I : mI) (q : Nat) (x y z : Int32) : BL I (uI (uI (uI I 414 q x) 415 q y) 384 44 z) q := fun j hj => ⟨by rw [uI_off (by omega), uI_off (by omega), uI_ix (by omega)], by rw [uI_off (by omega), uI_ix (by omega), uI_off (by omega)]⟩
def isOp (w : Int32) : Prop := w = nI 8 ∨ w = nI 9 ∨ w = nI 10 ∨ w = nI 15
def oxA (B a j : Nat) : Prop := (a = 414 ∨ a = 415) ∧ B ≤ j ∧ j < B + 420 ∨ a = 384 ∧ (j = 44 ∨ j = 48)
theorem emA_ox {B a j : Nat} (h : emA B a j) : oxA B a j := by unfold emA at h; unfold oxA; omega
theorem opc_cd : (cdK (-1) = nI 2 ∧ cdV (-1) = nI 0) ∧ (cdK (-2) = nI 3 ∧ cdV (-2) = nI 0) ∧ (cdK (-3) = nI 4 ∧ cdV (-3) = nI 0) ∧ (cdK (-4) = nI 5 ∧ cdV (-4) = nI 0) := by decide +kernel
/-- one operator comes out -/
theorem m_out1 (d : Nat) {S : mS} {I : mI} {L : mJ} {B : Nat} (G : Gd S) {q : Nat} (h : I 384 44 = nI q) (hq : q < 840) (hB : B ≤ q ∧ q < B + 420) {w : Int32} {W : List Int32} (hw : I 384 48 = nI (W.length + 1)) (hW : W.length < 63) (hs : I 416 W.length = w) (ho : isOp w) {s : Int32} (hn : s = nI 0 ∨ ¬ w = nI 8 ∧ ¬ w = nI 9) : ∃ J, evk zcod none (d + 1) zc_X12_comesOut 0 [(0, .ref 384), (1, .int s)] [] (S, I, L) = evk zcod none (d + 1) zc_X12_comesOut 0 [(0, .ref 384), (1, .int s)] [] (S, J, L) ∧ Fi (oxA B) I J ∧ J 384 44 = nI (q + 1) ∧ J 384 48 = nI W.length ∧ CM J q [opc w] ∧ BL I J q := by
  let I1 := uI I 384 48 (nI W.length)
  have m1 : nI (W.length + 1) - nI 1 = nI W.length := by rw [pk_sub (by omega), show W.length + 1 - 1 = W.length by omega]
  have h1 : I1 384 44 = nI q := (uI_ix (by omega)).trans h
  have em := fun x => m_emit d (L := L) G h1 hq x (nI 0)
  have f1 : Fi (oxA B) I I1 := Fi.u Fi.rf (Or.inr ⟨rfl, Or.inr rfl⟩)
  have fin : ∀ x, cdK (opc w) = x → cdV (opc w) = nI 0 → evk zcod none (d + 1) zc_X12_comesOut 84 [(0, .ref 384), (1, .int s)] [.int x, .ref 384] (S, I1, L) = evk zcod none (d + 1) zc_X12_comesOut 0 [(0, .ref 384), (1, .int s)] [] (S, uI (uI (uI I1 414 q x) 415 q (nI 0)) 384 44 (nI (q + 1)), L) := by
    intro x _ _
    rw [B_X12_comesOut_84]
    simp only [gM G, if_true, em, bV_eq]
  have done : ∀ x, cdK (opc w) = x → cdV (opc w) = nI 0 → evk zcod none (d + 1) zc_X12_comesOut 0 [(0, .ref 384), (1, .int s)] [] (S, I, L) = evk zcod none (d + 1) zc_X12_comesOut 84 [(0, .ref 384), (1, .int s)] [.int x, .ref 384] (S, I1, L) → ∃ J, evk zcod none (d + 1) zc_X12_comesOut 0 [(0, .ref 384), (1, .int s)] [] (S, I, L) = evk zcod none (d + 1) zc_X12_comesOut 0 [(0, .ref 384), (1, .int s)] [] (S, J, L) ∧ Fi (oxA B) I J ∧ J 384 44 = nI (q + 1) ∧ J 384 48 = nI W.length ∧ CM J q [opc w] ∧ BL I J q := by
    intro x e1 e2 e3
    refine ⟨_, e3.trans (fin x e1 e2), f1.tr ((em_fi I1 q x (nI 0) (nI (q + 1)) hB).up fun _ _ => emA_ox), uI_same _ _ _ _, ?_, ⟨?_, ?_, ?_, trivial⟩, ?_⟩
    · rw [uI_ix (by omega), uI_off (by omega), uI_off (by omega)]
      exact uI_same _ _ _ _
    · rw [uI_off (by omega), uI_off (by omega), uI_same, e1]
    · rw [uI_off (by omega), uI_same, e2]
    · unfold opc isC
      split
      · exact Or.inr (Or.inr (Or.inl rfl))
      · split
        · exact Or.inr (Or.inr (Or.inr (Or.inl rfl)))
        · split
          · exact Or.inr (Or.inr (Or.inr (Or.inr (Or.inl rfl))))
          · exact Or.inr (Or.inr (Or.inr (Or.inr (Or.inr rfl))))
    · exact (BL.of (fun j => uI_off (by omega)) (fun j => uI_off (by omega)) q).tr (em_bl I1 q x (nI 0) (nI (q + 1))) (Nat.le_refl _)
  have pos : ¬ nI (W.length + 1) ≤ nI 0 := nI_ge (by omega) (by omega)
  have n6 : ¬ w = nI 6 := by rcases ho with z | z | z | z <;> (rw [z]; decide +kernel)
  have e42 : evk zcod none (d + 1) zc_X12_comesOut 0 [(0, .ref 384), (1, .int s)] [] (S, I, L) = evk zcod none (d + 1) zc_X12_comesOut 42 [(0, .ref 384), (1, .int s), (2, .int w)] [] (S, I, L) := by
    rw [B_X12_comesOut_0]
    simp only [gM G, if_true, true_and, hw, pos, if_false, m1, ixT (show W.length < 64 by omega) (by omega : 64 < 2147483648), ixI (show W.length < 2147483648 by omega), hs, n6]
    rcases hn with z | ⟨z1, z2⟩
    · rw [if_pos z]
    · simp only [z1, z2, if_false, not_false_iff, if_true, ite_self]
  have e63 : ¬ w = nI 8 → evk zcod none (d + 1) zc_X12_comesOut 0 [(0, .ref 384), (1, .int s)] [] (S, I, L) = evk zcod none (d + 1) zc_X12_comesOut 63 [(0, .ref 384), (1, .int s), (2, .int w)] [.ref 384] (S, I1, L) := by
    intro z
    rw [e42, B_X12_comesOut_42]
    simp only [gM G, if_true, hw, m1, z, not_false_iff]
    rfl
  rcases ho with z | z | z | z
  · refine done (nI 2) (by rw [z]; exact opc_cd.1.1) (by rw [z]; exact opc_cd.1.2) ?_
    rw [e42, B_X12_comesOut_42]
    simp only [gM G, if_true, hw, m1, z, not_true, if_false]
    rfl
  · refine done (nI 3) (by rw [z]; exact opc_cd.2.1.1) (by rw [z]; exact opc_cd.2.1.2) ?_
    rw [e63 (by rw [z]; decide +kernel), B_X12_comesOut_63, if_neg (fun q => q z)]
  · refine done (nI 4) (by rw [z]; exact opc_cd.2.2.1.1) (by rw [z]; exact opc_cd.2.2.1.2) ?_
    rw [e63 (by rw [z]; decide +kernel), B_X12_comesOut_63, if_pos (by rw [z]; decide +kernel), B_X12_comesOut_73, if_neg (fun q => q z)]
  · refine done (nI 5) (by rw [z]; exact opc_cd.2.2.2.1) (by rw [z]; exact opc_cd.2.2.2.2) ?_
    rw [e63 (by rw [z]; decide +kernel), B_X12_comesOut_63, if_pos (by rw [z]; decide +kernel), B_X12_comesOut_73, if_pos (by rw [z]; decide +kernel), B_X12_comesOut_83]
/-- where it stops -/
def stops (s : Int32) (W : List Int32) : Prop := ∀ w W', W = w :: W' → w = nI 6 ∨ ¬ s = nI 0 ∧ (w = nI 8 ∨ w = nI 9)
theorem m_outEnd (d : Nat) {S : mS} {I : mI} {L : mJ} (G : Gd S) {W : List Int32} (hw : I 384 48 = nI W.length) (hW : W.length < 64) (hs : WST I W) {s : Int32} (hn : stops s W) : evk zcod none (d + 1) zc_X12_comesOut 0 [(0, .ref 384), (1, .int s)] [] (S, I, L) = some (none, (S, I, L)) := by
  match W, hw, hW, hs, hn with
  | [], hw, _, _, _ =>
    have hw' : I 384 48 = nI 0 := hw
    simp only [B_X12_comesOut_0, B_X12_comesOut_91, gM G, if_true, hw', Int32.le_refl]
  | w :: W', hw, hW, hs, hn =>
    have hw' : I 384 48 = nI (W'.length + 1) := hw
    have hW' : W'.length + 1 < 64 := hW
    have m1 : nI (W'.length + 1) - nI 1 = nI W'.length := by rw [pk_sub (by omega), show W'.length + 1 - 1 = W'.length by omega]
    have pos : ¬ nI (W'.length + 1) ≤ nI 0 := nI_ge (by omega) (by omega)
    have hs1 : I 416 W'.length = w := hs.1
    rw [B_X12_comesOut_0]
    simp only [gM G, if_true, true_and, hw', pos, if_false, m1, ixT (show W'.length < 64 by omega) (by omega : 64 < 2147483648), ixI (show W'.length < 2147483648 by omega), hs1, B_X12_comesOut_41]
    rcases hn w W' rfl with z | ⟨z0, z | z⟩
    · rw [if_pos z]
    · rw [z, if_neg (by decide +kernel), if_neg z0, if_pos rfl]
    · rw [z, if_neg (by decide +kernel), if_neg z0, if_neg (by decide +kernel), if_neg (fun q => q rfl)]
theorem m_outs (d : Nat) {S : mS} {L : mJ} {B : Nat} (G : Gd S) {s : Int32} : ∀ (pend W : List Int32) (I : mI) (q : Nat), I 384 44 = nI q → q + pend.length ≤ 840 ∧ B ≤ q ∧ q + pend.length ≤ B + 420 → I 384 48 = nI (pend ++ W).length → (pend ++ W).length < 64 → WST I (pend ++ W) → (∀ w, w ∈ pend → isOp w ∧ (s = nI 0 ∨ ¬ w = nI 8 ∧ ¬ w = nI 9)) → stops s W → ∃ J, evk zcod none (d + 1) zc_X12_comesOut 0 [(0, .ref 384), (1, .int s)] [] (S, I, L) = some (none, (S, J, L)) ∧ Fi (oxA B) I J ∧ J 384 44 = nI (q + pend.length) ∧ J 384 48 = nI W.length ∧ CM J q (pend.map opc) ∧ BL I J q
  | [], W, I, q, h1, h2, h3, h4, h5, _, h7 => ⟨I, m_outEnd d G h3 h4 h5 h7, Fi.rf, h1, h3, trivial, BL.rf⟩
  | w :: pend, W, I, q, h1, h2, h3, h4, h5, h6, h7 => by
    have l : (w :: pend ++ W).length = (pend ++ W).length + 1 := rfl
    have l2 : (w :: pend).length = pend.length + 1 := rfl
    obtain ⟨g1, g2⟩ := h6 w (List.mem_cons_self ..)
    obtain ⟨J, e1, f1, a1, a2, a3, a4⟩ := m_out1 d (L := L) (B := B) G h1 (by omega) (by omega) (W := pend ++ W) h3 (by omega) h5.1 g1 g2
    obtain ⟨J2, e2, f2, c1, c2, c3, c4⟩ := m_outs d (B := B) G pend W J (q + 1) a1 (by omega) a2 (by omega) (WST.cg h5.2 fun j _ => f1 416 j (by unfold oxA; omega)) (fun w hw => h6 w (List.mem_cons_of_mem _ hw)) h7
    refine ⟨J2, e1.trans e2, f1.tr f2, ?_, c2, ?_, a4.tr c4 (by omega)⟩
    · rw [c1, l2, show q + 1 + pend.length = q + (pend.length + 1) by omega]
    · exact CM.app (a := [opc w]) (a3.lo fun j hj => c4 j hj) c3
theorem m_comesOut (d : Nat) {S : mS} {I : mI} {L : mJ} {B : Nat} (G : Gd S) {s : Int32} (pend W : List Int32) (q : Nat) (h1 : I 384 44 = nI q) (h2 : q + pend.length ≤ 840 ∧ B ≤ q ∧ q + pend.length ≤ B + 420) (h3 : I 384 48 = nI (pend ++ W).length) (h4 : (pend ++ W).length < 64) (h5 : WST I (pend ++ W)) (h6 : ∀ w, w ∈ pend → isOp w ∧ (s = nI 0 ∨ ¬ w = nI 8 ∧ ¬ w = nI 9)) (h7 : stops s W) : ∃ J, evM zcod (d + 2) 187 [.ref 384, .int s] (S, I, L) = some (none, (S, J, L)) ∧ Fi (oxA B) I J ∧ J 384 44 = nI (q + pend.length) ∧ J 384 48 = nI W.length ∧ CM J q (pend.map opc) ∧ BL I J q := by
  obtain ⟨J, e, r⟩ := m_outs d (L := L) (B := B) G pend W I q h1 h2 h3 h4 h5 h6 h7
  exact ⟨J, by rw [E_X12_comesOut]; exact e, r⟩
/-- whatever waits: all of it up to the next ( -/
theorem m_comesAny (d : Nat) {S : mS} {I : mI} {L : mJ} {B : Nat} (G : Gd S) (W : List Int32) (q : Nat) (h1 : I 384 44 = nI q) (h2 : q + W.length ≤ 840 ∧ B ≤ q ∧ q + W.length ≤ B + 420) (h3 : I 384 48 = nI W.length) (h4 : W.length < 64) (h5 : WST I W) (h6 : ∀ w, w ∈ W → isOp w ∨ w = nI 6) : ∃ J, evM zcod (d + 2) 187 [.ref 384, .int (nI 0)] (S, I, L) = some (none, (S, J, L)) ∧ Fi (oxA B) I J := by
  have key : ∃ pend W', W = pend ++ W' ∧ (∀ w, w ∈ pend → isOp w) ∧ stops (nI 0) W' := by
    clear h1 h2 h3 h4 h5
    induction W with
    | nil => exact ⟨[], [], rfl, fun w hw => absurd hw (List.not_mem_nil), fun w W' q => by cases q⟩
    | cons x W ih =>
      rcases h6 x (List.mem_cons_self ..) with z | z
      · obtain ⟨p, W', e, a, b⟩ := ih fun w hw => h6 w (List.mem_cons_of_mem _ hw)
        exact ⟨x :: p, W', by rw [e]; rfl, fun w hw => (List.mem_cons.mp hw).elim (fun e => by rw [e]; exact z) (a w), b⟩
      · exact ⟨[], x :: W, rfl, fun w hw => absurd hw (List.not_mem_nil), fun w W' q => by cases q; exact Or.inl z⟩
  obtain ⟨pend, W', rfl, a, b⟩ := key
  have hl : pend.length ≤ (pend ++ W').length := by rw [List.length_append]; omega
  obtain ⟨J, e, f, -⟩ := m_comesOut d (L := L) (B := B) G pend W' q h1 (by omega) h3 h4 h5 (fun w hw => ⟨a w hw, Or.inl rfl⟩) b
  exact ⟨J, e, f⟩
