/-! reading, class side: tokens taken, faults, expressions -/
/-- the token in hand is t, no fault -/
def RD (I : mI) (t : Nat) : Prop := t ≤ 400 ∧ I 31 4 = nI t ∧ I 31 5 = I 34 t ∧ I 31 6 = nI 0 ∧ I 32 4 = nI 401
/-- the fault f at token t -/
def FT (I : mI) (t f : Nat) : Prop := I 31 6 = nI f ∧ (f = 1 ∨ f = 2) ∧ I 31 7 = I 35 t
def rdA (a j : Nat) : Prop := a = 31 ∧ 4 ≤ j ∧ j ≤ 7 ∨ a = 28 ∧ j = 2 ∨ a = 29
def adA (a j : Nat) : Prop := a = 28 ∧ j = 2 ∨ a = 29
theorem adA_rd {a j : Nat} (h : adA a j) : rdA a j := Or.inr h
theorem s_kindAt (d : Nat) {S : mS} {I : mI} {L : mJ} (G : Gd S) {t : Nat} (h : I 32 4 = nI 401) (ht : t ≤ 400) : evM zcod (d + 1) 37 [.ref 32, .int (nI t)] (S, I, L) = some (some (.int (I 34 t)), (S, I, L)) := by
  rw [E_X10_kindAt]
  simp only [B_X10_kindAt_0, B_X10_kindAt_21, B_X10_kindAt_22, gRd G, if_true, true_and, h]
  rw [if_neg (n_pos (n := t) (by omega)), if_neg (nI_ge (by omega) (by omega)), if_pos (ixP (by omega) (by omega)), ixI (by omega)]
theorem s_placeAt (d : Nat) {S : mS} {I : mI} {L : mJ} (G : Gd S) {t : Nat} (h : I 32 4 = nI 401) (ht : t ≤ 400) : evM zcod (d + 1) 38 [.ref 32, .int (nI t)] (S, I, L) = some (some (.int (I 35 t)), (S, I, L)) := by
  rw [E_X10_placeAt]
  simp only [B_X10_placeAt_0, B_X10_placeAt_21, B_X10_placeAt_25, gRd G, if_true, true_and, h]
  rw [if_neg (n_pos (n := t) (by omega)), if_neg (nI_ge (by omega) (by omega)), if_pos (ixP (by omega) (by omega)), ixI (by omega)]
theorem s_valueAt (d : Nat) {S : mS} {I : mI} {L : mJ} (G : Gd S) {t : Nat} (h : I 32 4 = nI 401) (ht : t ≤ 400) : evM zcod (d + 1) 39 [.ref 32, .int (nI t)] (S, I, L) = some (some (.long (L 36 t)), (S, I, L)) := by
  rw [E_X10_valueAt]
  simp only [B_X10_valueAt_0, B_X10_valueAt_21, B_X10_valueAt_22, gRd G, if_true, true_and, h]
  rw [if_neg (n_pos (n := t) (by omega)), if_neg (nI_ge (by omega) (by omega)), if_pos (ixP (by omega) (by omega)), ixI (by omega)]
theorem s_fail (d : Nat) {S : mS} {I : mI} {L : mJ} (G : Gd S) {t f : Nat} (h : RD I t) (hf : f = 1 ∨ f = 2) : ∃ J, evM zcod (d + 2) 66 [.ref 31, .int (nI f)] (S, I, L) = some (none, (S, J, L)) ∧ Fi (fun a j => a = 31 ∧ (j = 6 ∨ j = 7)) I J ∧ FT J t f := by
  obtain ⟨h1, h2, h3, h4, h5⟩ := h
  have e : evM zcod (d + 1) 38 [.ref 32, .int (nI t)] (S, uI I 31 6 (nI f), L) = some (some (.int (I 35 t)), (S, uI I 31 6 (nI f), L)) := s_placeAt d G (I := uI I 31 6 (nI f)) ((uI_off (by omega)).trans h5) h1
  have e4 : uI I 31 6 (nI f) 31 4 = nI t := (uI_ix (by omega)).trans h2
  refine ⟨uI (uI I 31 6 (nI f)) 31 7 (I 35 t), ?_, Fi.u (Fi.u Fi.rf ⟨rfl, Or.inl rfl⟩) ⟨rfl, Or.inr rfl⟩, ⟨(uI_ix (by omega)).trans (uI_same _ _ _ _), hf, ?_⟩⟩
  · rw [E_X6_fail]
    simp only [B_X6_fail_0, B_X6_fail_27, gRd G, if_true, h4, not_true, if_false, e4, e, bI_eq]
  · rw [uI_same, uI_off (by omega), uI_off (by omega)]
theorem s_take_bad (d : Nat) {S : mS} {I : mI} {L : mJ} (G : Gd S) (h : ¬ I 31 6 = nI 0) (x : Int32) : evM zcod (d + 1) 62 [.ref 31, .int x] (S, I, L) = some (some (.int (nI 0)), (S, I, L)) := by
  rw [E_X6_take]
  simp only [B_X6_take_0, B_X6_take_20, B_X6_take_42, gRd G, if_true, h, not_false_iff, if_false]
theorem s_take_ok (d : Nat) {S : mS} {I : mI} {L : mJ} (G : Gd S) {t : Nat} (h : RD I t) {x : Int32} (hx : I 34 t = x) (ht : t < 400) : evM zcod (d + 2) 62 [.ref 31, .int x] (S, I, L) = some (some (.int (nI 1)), (S, uI (uI I 31 4 (nI (t + 1))) 31 5 (I 34 (t + 1)), L)) := by
  obtain ⟨h1, h2, h3, h4, h5⟩ := h
  have e : evM zcod (d + 1) 37 [.ref 32, .int (nI (t + 1))] (S, uI I 31 4 (nI (t + 1)), L) = some (some (.int (I 34 (t + 1))), (S, uI I 31 4 (nI (t + 1)), L)) := s_kindAt d G (I := uI I 31 4 (nI (t + 1))) ((uI_off (by omega)).trans h5) (by omega)
  have lt : nI t < nI 400 := nI_lt ht (by omega)
  rw [E_X6_take]
  simp only [B_X6_take_0, B_X6_take_20, B_X6_take_42, B_X6_take_51, gRd G, if_true, h4, not_true, if_false, h3, hx, h2, lt, nI_add, uI_same, e, bI_eq]
theorem RD.take {I : mI} {t : Nat} (h : RD I t) (ht : t < 400) : RD (uI (uI I 31 4 (nI (t + 1))) 31 5 (I 34 (t + 1))) (t + 1) := by
  obtain ⟨h1, h2, h3, h4, h5⟩ := h
  refine ⟨by omega, (uI_ix (by omega)).trans (uI_same _ _ _ _), (uI_same _ _ _ _).trans ?_, (uI_ix (by omega)).trans ((uI_ix (by omega)).trans h4), (uI_off (by omega)).trans ((uI_off (by omega)).trans h5)⟩
  rw [uI_off (by omega), uI_off (by omega)]
theorem s_take_syn (d : Nat) {S : mS} {I : mI} {L : mJ} (G : Gd S) {t : Nat} (h : RD I t) {x : Int32} (hx : ¬ I 34 t = x) : ∃ J, evM zcod (d + 3) 62 [.ref 31, .int x] (S, I, L) = some (some (.int (nI 0)), (S, J, L)) ∧ Fi (fun a j => a = 31 ∧ (j = 6 ∨ j = 7)) I J ∧ FT J t 1 := by
  obtain ⟨J, e, f, q⟩ := s_fail d (L := L) G h (Or.inl rfl)
  refine ⟨J, ?_, f, q⟩
  obtain ⟨h1, h2, h3, h4, h5⟩ := h
  have q6 : ¬ J 31 6 = nI 0 := by rw [q.1]; decide +kernel
  rw [E_X6_take]
  simp only [B_X6_take_0, B_X6_take_20, B_X6_take_42, gRd G, if_true, h4, not_true, if_false, h3, hx, e, bV_eq, q6, not_false_iff]
theorem s_take_room (d : Nat) {S : mS} {I : mI} {L : mJ} (G : Gd S) {t : Nat} (h : RD I t) {x : Int32} (hx : I 34 t = x) (ht : ¬ t < 400) : ∃ J, evM zcod (d + 3) 62 [.ref 31, .int x] (S, I, L) = some (some (.int (nI 0)), (S, J, L)) ∧ Fi (fun a j => a = 31 ∧ (j = 6 ∨ j = 7)) I J ∧ FT J t 2 := by
  obtain ⟨J, e, f, q⟩ := s_fail d (L := L) G h (Or.inr rfl)
  refine ⟨J, ?_, f, q⟩
  obtain ⟨h1, h2, h3, h4, h5⟩ := h
  have q6 : ¬ J 31 6 = nI 0 := by rw [q.1]; decide +kernel
  have lt : ¬ nI t < nI 400 := nI_nlt (by omega) (by omega)
  rw [E_X6_take]
  simp only [B_X6_take_0, B_X6_take_20, B_X6_take_42, gRd G, if_true, h4, not_true, if_false, h3, hx, h2, lt, e, bV_eq, q6, not_false_iff]
theorem s_lAdd (d : Nat) {S : mS} {I : mI} {L : mJ} (G : Gd S) {u : Nat} (h : I 28 2 = nI u) (hu : u < 432) (c : Int32) : evM zcod (d + 1) 14 [.ref 28, .int c] (S, I, L) = some (none, (S, uI (uI I 29 u c) 28 2 (nI (u + 1)), L)) := by
  have e2 : uI I 29 u c 28 2 = nI u := (uI_off (by omega)).trans h
  rw [E_X3_add]
  simp only [B_X3_add_0, B_X3_add_32, gLaw G, if_true, true_and, h]
  rw [if_neg (nI_ge hu (by omega)), if_pos (ixP hu (by omega))]
  simp only [ixI (show u < 2147483648 by omega), e2, nI_add]
theorem s_lAddF (d : Nat) {S : mS} {I : mI} {L : mJ} (G : Gd S) (h : I 28 2 = nI 432) (c : Int32) : evM zcod (d + 1) 14 [.ref 28, .int c] (S, I, L) = some (none, (S, I, L)) := by
  rw [E_X3_add]
  simp only [B_X3_add_0, B_X3_add_32, gLaw G, if_true, true_and, h]
  rw [if_pos (Int32.le_refl _)]
/-- an add that is not looked at again -/
theorem s_lAdd0 (d : Nat) {S : mS} {I : mI} {L : mJ} (G : Gd S) (h : ∃ u, u ≤ 432 ∧ I 28 2 = nI u) (c : Int32) : ∃ J, evM zcod (d + 1) 14 [.ref 28, .int c] (S, I, L) = some (none, (S, J, L)) ∧ Fi adA I J ∧ ∃ u, u ≤ 432 ∧ J 28 2 = nI u := by
  obtain ⟨u, h1, h2⟩ := h
  by_cases q : u < 432
  · exact ⟨_, s_lAdd d G h2 q c, Fi.u (Fi.u Fi.rf (Or.inr rfl)) (Or.inl ⟨rfl, rfl⟩), u + 1, by omega, uI_same _ _ _ _⟩
  · have e : u = 432 := by omega
    subst e
    exact ⟨I, s_lAddF d G h2 c, Fi.rf, 432, h1, h2⟩
theorem LCf.app {g : Nat → Int32} : ∀ {a b : List Int32} {p : Nat}, LCf g p a → LCf g (p + a.length) b → LCf g p (a ++ b)
  | [], _, _, _, h => h
  | _ :: a, b, p, h1, h2 => ⟨h1.1, h1.2.1, LCf.app h1.2.2 (by rw [show p + 1 + a.length = p + (a.length + 1) by omega]; exact h2)⟩
theorem LCf.lo {f g : Nat → Int32} : ∀ {a : List Int32} {p : Nat}, LCf f p a → (∀ j, p ≤ j → j < p + a.length → g j = f j) → LCf g p a
  | [], _, _, _ => trivial
  | _ :: a, p, h, e => ⟨(e p (Nat.le_refl _) (by show p < p + (a.length + 1); omega)).trans h.1, h.2.1, LCf.lo h.2.2 fun j q1 q2 => e j (by omega) (by show j < p + (a.length + 1); omega)⟩
/-- what has come out: the cells from u on -/
def XR (I J : mI) (u : Nat) : mRes → Prop
  | Sum.inl (t, o) => RD J t ∧ J 28 2 = nI (u + o.length) ∧ LCf (J 29) u o ∧ ∀ j, j < u → J 29 j = I 29 j
  | Sum.inr (t, f) => FT J t f ∧ ∃ u, u ≤ 432 ∧ J 28 2 = nI u
abbrev VT (L : mJ) : Nat → Int32 := fun t => (L 36 t).toInt32
theorem RD.cg {I J : mI} {t : Nat} (h : RD I t) (f : Fi adA I J) : RD J t := by
  obtain ⟨h1, h2, h3, h4, h5⟩ := h
  refine ⟨h1, (f _ _ (by unfold adA; omega)).trans h2, ?_, (f _ _ (by unfold adA; omega)).trans h4, (f _ _ (by unfold adA; omega)).trans h5⟩
  rw [f 31 5 (by unfold adA; omega), f 34 t (by unfold adA; omega)]
  exact h3
theorem FT.cg {I J : mI} {t f : Nat} (h : FT I t f) (q : Fi adA I J) : FT J t f := by
  obtain ⟨h1, h2, h3⟩ := h
  refine ⟨(q _ _ (by unfold adA; omega)).trans h1, h2, ?_⟩
  rw [q 31 7 (by unfold adA; omega), q 35 t (by unfold adA; omega)]
  exact h3
theorem FT.n0 {I : mI} {t f : Nat} (h : FT I t f) : ¬ I 31 6 = nI 0 := by
  rcases h.2.1 with q | q <;> (rw [h.1, q]; decide +kernel)
theorem tkA_rd {a j : Nat} (h : a = 31 ∧ (j = 6 ∨ j = 7)) : rdA a j := Or.inl ⟨h.1, by omega, by omega⟩
theorem tk_fi (I : mI) (x y : Int32) : Fi rdA I (uI (uI I 31 4 x) 31 5 y) := Fi.u (Fi.u Fi.rf (Or.inl ⟨rfl, by omega, by omega⟩)) (Or.inl ⟨rfl, by omega, by omega⟩)
theorem ad_fi (I : mI) (u : Nat) (x y : Int32) : Fi adA I (uI (uI I 29 u x) 28 2 y) := Fi.u (Fi.u Fi.rf (Or.inr rfl)) (Or.inl ⟨rfl, rfl⟩)
/-- add, then the next token -/
theorem s_addTake (d : Nat) {S : mS} {I : mI} {L : mJ} (G : Gd S) {t u : Nat} (h : RD I t) (hu : I 28 2 = nI u) (hu2 : u < 432) (c : Int32) (hc : isC c) {x : Int32} (hx : I 34 t = x) : ∃ J y, evM zcod (d + 3) 62 [.ref 31, .int x] (S, uI (uI I 29 u c) 28 2 (nI (u + 1)), L) = some (some (.int y), (S, J, L)) ∧ Fi rdA I J ∧ XR I J u (if t < 400 then Sum.inl (t + 1, [c]) else Sum.inr (t, 2)) := by
  have f0 := ad_fi I u c (nI (u + 1))
  have h' := h.cg f0
  have hx' : (uI (uI I 29 u c) 28 2 (nI (u + 1))) 34 t = x := (f0 _ _ (by unfold adA; omega)).trans hx
  by_cases ht : t < 400
  · have e := s_take_ok (d + 1) (L := L) G h' hx' ht
    refine ⟨_, _, e, (f0.up fun _ _ => adA_rd).tr (tk_fi _ _ _), ?_⟩
    rw [if_pos ht]
    refine ⟨h'.take ht, ?_, ⟨?_, hc, trivial⟩, fun j hj => ?_⟩
    · rw [uI_off (by omega), uI_off (by omega), uI_same]
      rfl
    · rw [uI_off (by omega), uI_off (by omega), uI_off (by omega), uI_same]
    · rw [uI_off (by omega), uI_off (by omega), uI_off (by omega), uI_ix (by omega)]
  · obtain ⟨J, e, f, q⟩ := s_take_room d (L := L) G h' hx' ht
    refine ⟨J, _, e, (f0.up fun _ _ => adA_rd).tr (f.up fun _ _ => tkA_rd), ?_⟩
    rw [if_neg ht]
    refine ⟨q, u + 1, by omega, ?_⟩
    rw [f 28 2 (by omega), uI_same]
/-- what holds of the tokens all along -/
def TKV (I : mI) (L : mJ) (K V : Nat → Int32) : Prop := I 34 = K ∧ VT L = V ∧ ∀ t, K t = nI 3 → nI 0 ≤ V t
theorem TKV.cg {I J : mI} {L : mJ} {K V : Nat → Int32} (h : TKV I L K V) (f : Fi rdA I J) : TKV J L K V := ⟨(f.row 34 fun j => by unfold rdA; omega).trans h.1, h.2⟩
def USp (S : mS) (L : mJ) (K V : Nat → Int32) (w c : Nat) : Prop := ∀ (d : Nat) (I : mI) (t u : Nat), TKV I L K V → RD I t → I 28 2 = nI u → u ≤ t + 20 → ∃ r J, PX K V 0 w t [] r ∧ evM zcod (d + c) 61 [.ref 31, .int (nI w)] (S, I, L) = some (none, (S, J, L)) ∧ Fi rdA I J ∧ XR I J u r
def PSp (S : mS) (L : mJ) (K V : Nat → Int32) (w c : Nat) : Prop := ∀ (d : Nat) (I : mI) (t u : Nat), TKV I L K V → RD I t → I 28 2 = nI u → u ≤ t + 20 → ∃ r J, PX K V 1 w t [] r ∧ evM zcod (d + c) 60 [.ref 31, .int (nI w)] (S, I, L) = some (none, (S, J, L)) ∧ Fi rdA I J ∧ XR I J u r
def SSp (S : mS) (L : mJ) (K V : Nat → Int32) (w c : Nat) : Prop := ∀ (d : Nat) (I : mI) (t u : Nat), TKV I L K V → RD I t → I 28 2 = nI u → u ≤ t + 20 → ∃ r J, PX K V 3 w t [] r ∧ evM zcod (d + c) 59 [.ref 31, .int (nI w)] (S, I, L) = some (none, (S, J, L)) ∧ Fi rdA I J ∧ XR I J u r
theorem XR.u {I J : mI} {u t : Nat} {r : mRes} (h : XR I J u r) (K : Nat → Int32) (w g : Nat) (a : List Int32) (ha : a = []) (hr : PXp K g w t a r) (hu : u ≤ t + 20) : ∃ u, u ≤ 432 ∧ J 28 2 = nI u := by
  match r, h, hr with
  | Sum.inr (_, _), h, _ => exact h.2
  | Sum.inl (t', o), h, hr =>
    have h1 := hr.1
    have h2 : o.length + t ≤ 0 + t' := by
      have := hr.2.2.1
      rw [ha] at this
      exact this
    exact ⟨u + o.length, by omega, h.2.1⟩
theorem tk_fi' (J : mI) (x y : Int32) : uI (uI J 31 4 x) 31 5 y 29 = J 29 := funext fun j => by rw [uI_off (by omega), uI_off (by omega)]
/-! a fault ends all -/
theorem s_unit_bad (d : Nat) {S : mS} {I : mI} {L : mJ} (G : Gd S) (h : ¬ I 31 6 = nI 0) (x : Int32) : evM zcod (d + 1) 61 [.ref 31, .int x] (S, I, L) = some (none, (S, I, L)) := by
  rw [E_X6_unit]
  simp only [B_X6_unit_0, gRd G, if_true, h, if_false]
theorem s_product_bad (d : Nat) {S : mS} {I : mI} {L : mJ} (G : Gd S) (h : ¬ I 31 6 = nI 0) (x : Int32) : evM zcod (d + 2) 60 [.ref 31, .int x] (S, I, L) = some (none, (S, I, L)) := by
  have n4 : ¬ nI 400 ≤ nI 0 := nI_ge (by omega) (by omega)
  rw [E_X6_product]
  simp only [B_X6_product_0, B_X6_product_7, B_X6_product_87, gRd G, if_true, s_unit_bad _ G h, bV_eq, h, not_false_iff, n4, if_false]
theorem s_sum_bad (d : Nat) {S : mS} {I : mI} {L : mJ} (G : Gd S) (h : ¬ I 31 6 = nI 0) (x : Int32) : evM zcod (d + 3) 59 [.ref 31, .int x] (S, I, L) = some (none, (S, I, L)) := by
  have n4 : ¬ nI 400 ≤ nI 0 := nI_ge (by omega) (by omega)
  rw [E_X6_sum]
  simp only [B_X6_sum_0, B_X6_sum_7, B_X6_sum_86, gRd G, if_true, s_product_bad _ G h, bV_eq, h, not_false_iff, n4, if_false]
theorem td_neq : (∀ k, k < 9 → ¬ nI (141 + k) = nI 3) ∧ (∀ k, k < 9 → ¬ nI (141 + k) = nI 40) := by decide +kernel
theorem var_sub : ∀ k, k < 9 → nI (141 + k) - nI 141 = nI k := by decide +kernel
theorem s_unit {S : mS} {L : mJ} {K V : Nat → Int32} (G : Gd S) {w c : Nat} (hw : w ≤ 6) (hs : w < 6 → SSp S L K V (w + 1) c) : USp S L K V w (c + 4) := by
  intro d I t u ⟨k1, k2, k3⟩ h hu hu2
  have h' := h
  obtain ⟨h1, h2, h3, h4, h5⟩ := h'
  rw [k1] at h3
  rw [show d + (c + 4) = d + c + 3 + 1 by omega, E_X6_unit, B_X6_unit_0]
  simp only [gRd G, if_true, h4]
  rw [B_X6_unit_8]
  simp only [gRd G, if_true, h3]
  by_cases a : K t = nI 3
  · rw [if_neg (fun q => q a)]
    obtain ⟨J, y, e, f, q⟩ := s_addTake (d + c) (L := L) G h hu (by omega) (V t) (Or.inl (k3 t a)) (x := nI 3) (by rw [k1]; exact a)
    have va := s_valueAt (d + c + 2) (L := L) G h5 h1
    have ad := s_lAdd (d + c + 2) (L := L) G hu (by omega) (L 36 t).toInt32
    simp only [gTop G, gLaw G, if_true, h2, va, bL_eq, ad, bV_eq]
    rw [show (L 36 t).toInt32 = V t from congrFun k2 t, e]
    simp only [bI_eq, if_true]
    simp only [gRd G, gTop G, gLaw G, if_true, B_X6_unit_144]
    refine ⟨_, J, ?_, rfl, f, q⟩
    split
    · exact .uInt a ‹_›
    · exact .uFull (Or.inl a) ‹_›
  · rw [if_pos a, B_X6_unit_56]
    simp only [s_isWithin, bI_eq, if_true]
    by_cases b : ∃ k, k < 9 ∧ K t = nI (141 + k)
    · obtain ⟨k, hk, b⟩ := b
      have hx1 : (if nI 0 ≤ nI k ∧ nI k ≤ nI 8 then nI 1 else nI 0) = nI 1 := if_pos ⟨nI_le (Nat.zero_le _) (by omega), nI_le (by omega) (by omega)⟩
      rw [b, var_sub k hk, hx1, if_neg (by decide +kernel)]
      obtain ⟨J, y, e, f, q⟩ := s_addTake (d + c) (L := L) G h hu (by omega) (-10 - nI k) (Or.inr (Or.inl ⟨k, hk, rfl⟩)) (x := nI (141 + k)) (by rw [k1]; exact b)
      have ad := s_lAdd (d + c + 2) (L := L) G hu (by omega) (-10 - nI k)
      have e5 : (uI (uI I 29 u (-10 - nI k)) 28 2 (nI (u + 1))) 31 5 = nI (141 + k) := by rw [uI_off (by omega), uI_off (by omega), h3, b]
      simp only [gRd G, gTop G, gLaw G, if_true, ad, bV_eq, e5, e, bI_eq]
      simp only [gRd G, gTop G, gLaw G, if_true, B_X6_unit_144]
      refine ⟨_, J, ?_, rfl, f, q⟩
      split
      · exact .uVar hk b ‹_›
      · exact .uFull (Or.inr (Or.inl ⟨k, hk, b⟩)) ‹_›
    · have nb : ¬ (nI 0 ≤ K t - nI 141 ∧ K t - nI 141 ≤ nI 8) := by
        rintro ⟨q1, q2⟩
        rw [i_le, t_nI (by omega)] at q1 q2
        obtain ⟨k, hk, e⟩ := i_of2 (n := 9) q1 (by omega)
        apply b
        refine ⟨k, hk, ?_⟩
        have z : K t - nI 141 + nI 141 = nI k + nI 141 := by rw [e]
        rw [Int32.sub_add_cancel, nI_add, Nat.add_comm] at z
        exact z
      rw [if_neg nb, if_pos rfl, B_X6_unit_92]
      simp only [gRd G, if_true, h3]
      by_cases c4 : K t = nI 40
      · rw [if_pos c4, B_X6_unit_109]
        by_cases w6 : w < 6
        · rw [if_pos (nI_lt w6 (by omega)), B_X6_unit_123]
          simp only [gRd G, if_true]
          have hx : I 34 t = nI 40 := by rw [k1]; exact c4
          by_cases ht : t < 400
          · have e := s_take_ok (d + c + 1) (L := L) G h hx ht
            have f0 := tk_fi I (nI (t + 1)) (I 34 (t + 1))
            obtain ⟨r, J, p1, e2, f2, q2⟩ := hs w6 (d + 3) _ (t + 1) u (TKV.cg ⟨k1, k2, k3⟩ f0) (h.take ht) ((uI_off (by omega)).trans ((uI_off (by omega)).trans hu)) (by omega)
            rw [show d + 3 + c = d + c + 3 by omega] at e2
            simp only [e, bI_eq, if_true, nI_add, e2, bV_eq]
            have f3 := f0.tr f2
            match r, p1, q2 with
            | Sum.inr (t', f), p1, q2 =>
              have e3 := s_take_bad (d + c + 2) (L := L) G q2.1.n0 (nI 41)
              simp only [e3, bI_eq, if_true]
              simp only [gRd G, gTop G, gLaw G, if_true, B_X6_unit_144]
              exact ⟨_, J, .uParB c4 w6 ht p1, rfl, f3, q2⟩
            | Sum.inl (t', o), p1, ⟨q3, q4, q5, q6⟩ =>
              have k1' : J 34 = K := (f3.row 34 fun j => by unfold rdA; omega).trans k1
              have pr := p1.pr k3 (by omega) (by omega)
              have l1 := pr.1
              have l2 : o.length + (t + 1) ≤ 0 + t' := pr.2.2.1
              by_cases z : K t' = nI 41
              · by_cases z2 : t' < 400
                · have e3 := s_take_ok (d + c + 1) (L := L) G q3 (x := nI 41) (by rw [k1']; exact z) z2
                  simp only [e3, bI_eq, if_true]
                  simp only [gRd G, gTop G, gLaw G, if_true, B_X6_unit_144]
                  refine ⟨_, _, .uPar c4 w6 ht p1 z z2, rfl, f3.tr (tk_fi _ _ _), q3.take z2, ?_, ?_, fun j hj => ?_⟩
                  · rw [uI_off (by omega), uI_off (by omega)]
                    exact q4
                  · rw [(tk_fi' J (nI (t' + 1)) (J 34 (t' + 1)))]
                    exact q5
                  · rw [uI_off (by omega), uI_off (by omega), q6 j hj, uI_off (by omega), uI_off (by omega)]
                · obtain ⟨J2, e3, f4, q7⟩ := s_take_room (d + c) (L := L) G q3 (x := nI 41) (by rw [k1']; exact z) z2
                  simp only [e3, bI_eq, if_true]
                  simp only [gRd G, gTop G, gLaw G, if_true, B_X6_unit_144]
                  exact ⟨_, J2, .uParF c4 w6 ht p1 z z2, rfl, f3.tr (f4.up fun _ _ => tkA_rd), q7, u + o.length, by omega, (f4 28 2 (by omega)).trans q4⟩
              · obtain ⟨J2, e3, f4, q7⟩ := s_take_syn (d + c) (L := L) G q3 (x := nI 41) (by rw [k1']; exact z)
                simp only [e3, bI_eq, if_true]
                simp only [gRd G, gTop G, gLaw G, if_true, B_X6_unit_144]
                exact ⟨_, J2, .uParS c4 w6 ht p1 z, rfl, f3.tr (f4.up fun _ _ => tkA_rd), q7, u + o.length, by omega, (f4 28 2 (by omega)).trans q4⟩
          · obtain ⟨J, e, f, q⟩ := s_take_room (d + c) (L := L) G h hx ht
            obtain ⟨J2, e2, e3⟩ : ∃ J2 : mI, evM zcod (d + c + 3) 59 [.ref 31, .int (nI (w + 1))] (S, J, L) = some (none, (S, J, L)) ∧ True := ⟨J, s_sum_bad (d + c) G q.n0 (nI (w + 1)), trivial⟩
            have e3 := s_take_bad (d + c + 2) (L := L) G q.n0 (nI 41)
            simp only [e, bI_eq, if_true, nI_add, e2, bV_eq, e3]
            simp only [gRd G, gTop G, gLaw G, if_true, B_X6_unit_144]
            exact ⟨_, J, .uFull (Or.inr (Or.inr c4)) ht, rfl, f.up fun _ _ => tkA_rd, q, u, by omega, (f 28 2 (by omega)).trans hu⟩
        · rw [if_neg (nI_nlt (by omega) (by omega))]
          obtain ⟨J, e, f, q⟩ := s_fail (d + c + 1) (L := L) G h (Or.inr rfl)
          simp only [gRd G, if_true, e, bV_eq]
          simp only [gRd G, gTop G, gLaw G, if_true, B_X6_unit_144]
          exact ⟨_, J, .uDeep c4 (by omega), rfl, f.up fun _ _ => tkA_rd, q, u, by omega, (f 28 2 (by omega)).trans hu⟩
      · rw [if_neg c4]
        obtain ⟨J, e, f, q⟩ := s_fail (d + c + 1) (L := L) G h (Or.inl rfl)
        simp only [e, bV_eq, if_true]
        simp only [gRd G, gTop G, gLaw G, if_true, B_X6_unit_144]
        refine ⟨_, J, .uSyn ?_, rfl, f.up fun _ _ => tkA_rd, q, u, by omega, (f 28 2 (by omega)).trans hu⟩
        rintro (z | z | z)
        · exact a z
        · exact b z
        · exact c4 z
