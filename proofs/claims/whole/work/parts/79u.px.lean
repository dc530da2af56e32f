/-! expressions: how they are read (kinds K of the tokens, values V of the ints), and the postfix code that is made -/
abbrev mRes : Type := Sum (Nat × List Int32) (Nat × Nat)
def isTd (K : Nat → Int32) (t : Nat) : Prop := K t = nI 42 ∨ K t = nI 47
def isPm (K : Nat → Int32) (t : Nat) : Prop := K t = nI 43 ∨ K t = nI 45
def isUn (K : Nat → Int32) (t : Nat) : Prop := K t = nI 3 ∨ (∃ k, k < 9 ∧ K t = nI (141 + k)) ∨ K t = nI 40
/-- the ways in which it goes on: P is kept by each. 0 a unit, 1 a part, 2 its loop, 3 an expression, 4 its loop; w within; t the token -/
def PXc (K V : Nat → Int32) (P : Nat → Nat → Nat → List Int32 → mRes → Prop) : Prop :=
  (∀ (w t : Nat), K t = nI 3 → t < 400 → P 0 w t [] (Sum.inl ((t + 1), [V t]))) ∧
  (∀ (w t k : Nat), k < 9 → K t = nI (141 + k) → t < 400 → P 0 w t [] (Sum.inl ((t + 1), [-10 - nI k]))) ∧
  (∀ (w t : Nat), isUn K t → ¬ t < 400 → P 0 w t [] (Sum.inr (t, 2))) ∧
  (∀ (w t : Nat), ¬ isUn K t → P 0 w t [] (Sum.inr (t, 1))) ∧
  (∀ (w t : Nat), K t = nI 40 → 6 ≤ w → P 0 w t [] (Sum.inr (t, 2))) ∧
  (∀ (w t t' : Nat) (o : List Int32), K t = nI 40 → w < 6 → t < 400 → P 3 (w + 1) (t + 1) [] (Sum.inl (t', o)) → K t' = nI 41 → t' < 400 → P 0 w t [] (Sum.inl ((t' + 1), o))) ∧
  (∀ (w t t' f : Nat), K t = nI 40 → w < 6 → t < 400 → P 3 (w + 1) (t + 1) [] (Sum.inr (t', f)) → P 0 w t [] (Sum.inr (t', f))) ∧
  (∀ (w t t' : Nat) (o : List Int32), K t = nI 40 → w < 6 → t < 400 → P 3 (w + 1) (t + 1) [] (Sum.inl (t', o)) → ¬ K t' = nI 41 → P 0 w t [] (Sum.inr (t', 1))) ∧
  (∀ (w t t' : Nat) (o : List Int32), K t = nI 40 → w < 6 → t < 400 → P 3 (w + 1) (t + 1) [] (Sum.inl (t', o)) → K t' = nI 41 → ¬ t' < 400 → P 0 w t [] (Sum.inr (t', 2))) ∧
  (∀ (w t t' f : Nat), P 0 w t [] (Sum.inr (t', f)) → P 1 w t [] (Sum.inr (t', f))) ∧
  (∀ (w t t' : Nat) (o : List Int32) (r : mRes), P 0 w t [] (Sum.inl (t', o)) → P 2 w t' o r → P 1 w t [] r) ∧
  (∀ (w t : Nat) (a : List Int32), ¬ isTd K t → P 2 w t a (Sum.inl (t, a))) ∧
  (∀ (w t : Nat) (a : List Int32), isTd K t → ¬ t < 400 → P 2 w t a (Sum.inr (t, 2))) ∧
  (∀ (w t t' f : Nat) (a : List Int32), isTd K t → t < 400 → P 0 w (t + 1) [] (Sum.inr (t', f)) → P 2 w t a (Sum.inr (t', f))) ∧
  (∀ (w t t' : Nat) (a o : List Int32) (c : Int32) (r : mRes), K t = nI 42 ∧ c = -3 ∨ K t = nI 47 ∧ c = -4 → t < 400 → P 0 w (t + 1) [] (Sum.inl (t', o)) → P 2 w t' (a ++ (o ++ [c])) r → P 2 w t a r) ∧
  (∀ (w t t' f : Nat), P 1 w t [] (Sum.inr (t', f)) → P 3 w t [] (Sum.inr (t', f))) ∧
  (∀ (w t t' : Nat) (o : List Int32) (r : mRes), P 1 w t [] (Sum.inl (t', o)) → P 4 w t' o r → P 3 w t [] r) ∧
  (∀ (w t : Nat) (a : List Int32), ¬ isPm K t → P 4 w t a (Sum.inl (t, a))) ∧
  (∀ (w t : Nat) (a : List Int32), isPm K t → ¬ t < 400 → P 4 w t a (Sum.inr (t, 2))) ∧
  (∀ (w t t' f : Nat) (a : List Int32), isPm K t → t < 400 → P 1 w (t + 1) [] (Sum.inr (t', f)) → P 4 w t a (Sum.inr (t', f))) ∧
  (∀ (w t t' : Nat) (a o : List Int32) (c : Int32) (r : mRes), K t = nI 43 ∧ c = -1 ∨ K t = nI 45 ∧ c = -2 → t < 400 → P 1 w (t + 1) [] (Sum.inl (t', o)) → P 4 w t' (a ++ (o ++ [c])) r → P 4 w t a r)
def PX (K V : Nat → Int32) (g w t : Nat) (a : List Int32) (r : mRes) : Prop := ∀ P : Nat → Nat → Nat → List Int32 → mRes → Prop, PXc K V P → P g w t a r
theorem PX.uInt {K V : Nat → Int32} {w t : Nat} (z0 : K t = nI 3) (z1 : t < 400) : PX K V 0 w t [] (Sum.inl ((t + 1), [V t])) := fun P hP => hP.1 w t z0 z1
theorem PX.uVar {K V : Nat → Int32} {w t k : Nat} (z0 : k < 9) (z1 : K t = nI (141 + k)) (z2 : t < 400) : PX K V 0 w t [] (Sum.inl ((t + 1), [-10 - nI k])) := fun P hP => hP.2.1 w t k z0 z1 z2
theorem PX.uFull {K V : Nat → Int32} {w t : Nat} (z0 : isUn K t) (z1 : ¬ t < 400) : PX K V 0 w t [] (Sum.inr (t, 2)) := fun P hP => hP.2.2.1 w t z0 z1
theorem PX.uSyn {K V : Nat → Int32} {w t : Nat} (z0 : ¬ isUn K t) : PX K V 0 w t [] (Sum.inr (t, 1)) := fun P hP => hP.2.2.2.1 w t z0
theorem PX.uDeep {K V : Nat → Int32} {w t : Nat} (z0 : K t = nI 40) (z1 : 6 ≤ w) : PX K V 0 w t [] (Sum.inr (t, 2)) := fun P hP => hP.2.2.2.2.1 w t z0 z1
theorem PX.uPar {K V : Nat → Int32} {w t t' : Nat} {o : List Int32} (z0 : K t = nI 40) (z1 : w < 6) (z2 : t < 400) (z3 : PX K V 3 (w + 1) (t + 1) [] (Sum.inl (t', o))) (z4 : K t' = nI 41) (z5 : t' < 400) : PX K V 0 w t [] (Sum.inl ((t' + 1), o)) := fun P hP => hP.2.2.2.2.2.1 w t t' o z0 z1 z2 (z3 P hP) z4 z5
theorem PX.uParB {K V : Nat → Int32} {w t t' f : Nat} (z0 : K t = nI 40) (z1 : w < 6) (z2 : t < 400) (z3 : PX K V 3 (w + 1) (t + 1) [] (Sum.inr (t', f))) : PX K V 0 w t [] (Sum.inr (t', f)) := fun P hP => hP.2.2.2.2.2.2.1 w t t' f z0 z1 z2 (z3 P hP)
theorem PX.uParS {K V : Nat → Int32} {w t t' : Nat} {o : List Int32} (z0 : K t = nI 40) (z1 : w < 6) (z2 : t < 400) (z3 : PX K V 3 (w + 1) (t + 1) [] (Sum.inl (t', o))) (z4 : ¬ K t' = nI 41) : PX K V 0 w t [] (Sum.inr (t', 1)) := fun P hP => hP.2.2.2.2.2.2.2.1 w t t' o z0 z1 z2 (z3 P hP) z4
theorem PX.uParF {K V : Nat → Int32} {w t t' : Nat} {o : List Int32} (z0 : K t = nI 40) (z1 : w < 6) (z2 : t < 400) (z3 : PX K V 3 (w + 1) (t + 1) [] (Sum.inl (t', o))) (z4 : K t' = nI 41) (z5 : ¬ t' < 400) : PX K V 0 w t [] (Sum.inr (t', 2)) := fun P hP => hP.2.2.2.2.2.2.2.2.1 w t t' o z0 z1 z2 (z3 P hP) z4 z5
theorem PX.pB {K V : Nat → Int32} {w t t' f : Nat} (z0 : PX K V 0 w t [] (Sum.inr (t', f))) : PX K V 1 w t [] (Sum.inr (t', f)) := fun P hP => hP.2.2.2.2.2.2.2.2.2.1 w t t' f (z0 P hP)
theorem PX.p {K V : Nat → Int32} {w t t' : Nat} {o : List Int32} {r : mRes} (z0 : PX K V 0 w t [] (Sum.inl (t', o))) (z1 : PX K V 2 w t' o r) : PX K V 1 w t [] r := fun P hP => hP.2.2.2.2.2.2.2.2.2.2.1 w t t' o r (z0 P hP) (z1 P hP)
theorem PX.plE {K V : Nat → Int32} {w t : Nat} {a : List Int32} (z0 : ¬ isTd K t) : PX K V 2 w t a (Sum.inl (t, a)) := fun P hP => hP.2.2.2.2.2.2.2.2.2.2.2.1 w t a z0
theorem PX.plF {K V : Nat → Int32} {w t : Nat} {a : List Int32} (z0 : isTd K t) (z1 : ¬ t < 400) : PX K V 2 w t a (Sum.inr (t, 2)) := fun P hP => hP.2.2.2.2.2.2.2.2.2.2.2.2.1 w t a z0 z1
theorem PX.plB {K V : Nat → Int32} {w t t' f : Nat} {a : List Int32} (z0 : isTd K t) (z1 : t < 400) (z2 : PX K V 0 w (t + 1) [] (Sum.inr (t', f))) : PX K V 2 w t a (Sum.inr (t', f)) := fun P hP => hP.2.2.2.2.2.2.2.2.2.2.2.2.2.1 w t t' f a z0 z1 (z2 P hP)
theorem PX.pl {K V : Nat → Int32} {w t t' : Nat} {a o : List Int32} {c : Int32} {r : mRes} (z0 : K t = nI 42 ∧ c = -3 ∨ K t = nI 47 ∧ c = -4) (z1 : t < 400) (z2 : PX K V 0 w (t + 1) [] (Sum.inl (t', o))) (z3 : PX K V 2 w t' (a ++ (o ++ [c])) r) : PX K V 2 w t a r := fun P hP => hP.2.2.2.2.2.2.2.2.2.2.2.2.2.2.1 w t t' a o c r z0 z1 (z2 P hP) (z3 P hP)
theorem PX.sB {K V : Nat → Int32} {w t t' f : Nat} (z0 : PX K V 1 w t [] (Sum.inr (t', f))) : PX K V 3 w t [] (Sum.inr (t', f)) := fun P hP => hP.2.2.2.2.2.2.2.2.2.2.2.2.2.2.2.1 w t t' f (z0 P hP)
theorem PX.s {K V : Nat → Int32} {w t t' : Nat} {o : List Int32} {r : mRes} (z0 : PX K V 1 w t [] (Sum.inl (t', o))) (z1 : PX K V 4 w t' o r) : PX K V 3 w t [] r := fun P hP => hP.2.2.2.2.2.2.2.2.2.2.2.2.2.2.2.2.1 w t t' o r (z0 P hP) (z1 P hP)
theorem PX.slE {K V : Nat → Int32} {w t : Nat} {a : List Int32} (z0 : ¬ isPm K t) : PX K V 4 w t a (Sum.inl (t, a)) := fun P hP => hP.2.2.2.2.2.2.2.2.2.2.2.2.2.2.2.2.2.1 w t a z0
theorem PX.slF {K V : Nat → Int32} {w t : Nat} {a : List Int32} (z0 : isPm K t) (z1 : ¬ t < 400) : PX K V 4 w t a (Sum.inr (t, 2)) := fun P hP => hP.2.2.2.2.2.2.2.2.2.2.2.2.2.2.2.2.2.2.1 w t a z0 z1
theorem PX.slB {K V : Nat → Int32} {w t t' f : Nat} {a : List Int32} (z0 : isPm K t) (z1 : t < 400) (z2 : PX K V 1 w (t + 1) [] (Sum.inr (t', f))) : PX K V 4 w t a (Sum.inr (t', f)) := fun P hP => hP.2.2.2.2.2.2.2.2.2.2.2.2.2.2.2.2.2.2.2.1 w t t' f a z0 z1 (z2 P hP)
theorem PX.sl {K V : Nat → Int32} {w t t' : Nat} {a o : List Int32} {c : Int32} {r : mRes} (z0 : K t = nI 43 ∧ c = -1 ∨ K t = nI 45 ∧ c = -2) (z1 : t < 400) (z2 : PX K V 1 w (t + 1) [] (Sum.inl (t', o))) (z3 : PX K V 4 w t' (a ++ (o ++ [c])) r) : PX K V 4 w t a r := fun P hP => hP.2.2.2.2.2.2.2.2.2.2.2.2.2.2.2.2.2.2.2.2 w t t' a o c r z0 z1 (z2 P hP) (z3 P hP)
def PXp (K : Nat → Int32) (g w t : Nat) (a : List Int32) : mRes → Prop
  | Sum.inr (t', f) => t ≤ t' ∧ t' ≤ 400 ∧ (f = 1 ∨ f = 2)
  | Sum.inl (t', o) => t' ≤ 400 ∧ t ≤ t' ∧ o.length + t ≤ a.length + t' ∧ (g = 0 ∨ g = 1 ∨ g = 3 → t < t') ∧ (g = 0 → EX (13 - 2 * w) o) ∧ (g = 1 → EX (14 - 2 * w) o) ∧ (g = 2 → EX (14 - 2 * w) a → EX (14 - 2 * w) o) ∧ (g = 3 → EX (15 - 2 * w) o) ∧ (g = 4 → EX (15 - 2 * w) a → EX (15 - 2 * w) o) ∧ (g = 1 ∨ g = 2 ∨ g = 3 → ¬ isTd K t') ∧ (g = 3 ∨ g = 4 → ¬ isPm K t') ∧ (g = 4 → ¬ isTd K t → ¬ isTd K t')
theorem PX.pr {K V : Nat → Int32} (hV : ∀ t, K t = nI 3 → nI 0 ≤ V t) {g w t : Nat} {a : List Int32} {r : mRes} (h : PX K V g w t a r) : t ≤ 400 → w ≤ 6 → PXp K g w t a r := by
  refine h (fun g w t a r => t ≤ 400 → w ≤ 6 → PXp K g w t a r) ⟨?_, ?_, ?_, ?_, ?_, ?_, ?_, ?_, ?_, ?_, ?_, ?_, ?_, ?_, ?_, ?_, ?_, ?_, ?_, ?_, ?_⟩
  · intro w t h1 h2
    intro _ hw
    refine ⟨by omega, by omega, by show 1 + t ≤ 0 + (t + 1); omega, fun _ => by omega, fun _ => .a1 (Or.inl (hV t h1)) (by omega), ?_, ?_, ?_, ?_, ?_, ?_, ?_⟩ <;> (intro q; omega)
  · intro w t k h0 h1 h2
    intro _ hw
    refine ⟨by omega, by omega, by show 1 + t ≤ 0 + (t + 1); omega, fun _ => by omega, fun _ => .a1 (Or.inr ⟨k, h0, rfl⟩) (by omega), ?_, ?_, ?_, ?_, ?_, ?_, ?_⟩ <;> (intro q; omega)
  · intro _ _ h1 h2
    exact fun q _ => ⟨Nat.le_refl _, q, Or.inr rfl⟩
  · intro _ _ h1
    exact fun q _ => ⟨Nat.le_refl _, q, Or.inl rfl⟩
  · intro _ _ h1 h2
    exact fun q _ => ⟨Nat.le_refl _, q, Or.inr rfl⟩
  · intro w t t' o h1 h2 h3 ih h4 h5
    intro _ hw
    obtain ⟨i1, i2, i3, i4, -, -, -, i5, -⟩ := ih (by omega) (by omega)
    have i3' : o.length + (t + 1) ≤ 0 + t' := i3
    refine ⟨by omega, by omega, by show o.length + t ≤ 0 + (t' + 1); omega, fun _ => by omega, fun _ => (i5 rfl).up (by omega), ?_, ?_, ?_, ?_, ?_, ?_, ?_⟩ <;> (intro q; omega)
  · intro _ _ _ _ h1 h2 h3 ih
    intro _ hw
    obtain ⟨i1, i2, i3⟩ := ih (by omega) (by omega)
    exact ⟨by omega, i2, i3⟩
  · intro _ _ _ _ h1 h2 h3 ih h4
    intro _ hw
    obtain ⟨i1, i2, -⟩ := ih (by omega) (by omega)
    exact ⟨by omega, i1, Or.inl rfl⟩
  · intro _ _ _ _ h1 h2 h3 ih h4 h5
    intro _ hw
    obtain ⟨i1, i2, -⟩ := ih (by omega) (by omega)
    exact ⟨by omega, i1, Or.inr rfl⟩
  · intro _ _ _ _ ih
    exact ih
  · intro w t t' o r ih1 ih2
    intro q hw
    obtain ⟨i1, i2, i3, i4, i5, -⟩ := ih1 q hw
    have i3' : o.length + t ≤ 0 + t' := i3
    have j := ih2 i1 hw
    match r, j with
    | Sum.inr (t2, f), ⟨j1, j2, j3⟩ => exact ⟨by omega, j2, j3⟩
    | Sum.inl (t2, o2), ⟨j1, j2, j3, _, _, _, j4, _, _, j5, _⟩ =>
      have i4' := i4 (Or.inl rfl)
      refine ⟨j1, by omega, by show o2.length + t ≤ 0 + t2; omega, fun _ => by omega, ?_, fun _ => j4 rfl ((i5 rfl).up (by omega)), ?_, ?_, ?_, fun _ => j5 (Or.inr (Or.inl rfl)), ?_, ?_⟩ <;> (intro q; omega)
  · intro w t a h1
    intro q hw
    refine ⟨q, Nat.le_refl _, Nat.le_refl _, ?_, ?_, ?_, fun _ z => z, ?_, ?_, fun _ => h1, ?_, ?_⟩ <;> (intro q; omega)
  · intro _ _ _ h1 h2
    exact fun q _ => ⟨Nat.le_refl _, q, Or.inr rfl⟩
  · intro _ _ _ _ _ h1 h2 ih
    intro q hw
    obtain ⟨i1, i2, i3⟩ := ih (by omega) (by omega)
    exact ⟨by omega, i2, i3⟩
  · intro w t t' a o c r h1 h2 ih1 ih2
    intro q hw
    obtain ⟨i1, i2, i3, i4, i5, -⟩ := ih1 (by omega) hw
    have i3' : o.length + (t + 1) ≤ 0 + t' := i3
    have j := ih2 i1 hw
    match r, j with
    | Sum.inr (t2, f), ⟨j1, j2, j3⟩ => exact ⟨by omega, j2, j3⟩
    | Sum.inl (t2, o2), ⟨j1, j2, j3, _, _, _, j4, _, _, j5, _⟩ =>
      have i4' := i4 (Or.inl rfl)
      rw [List.length_append, List.length_append] at j3
      have j3' : o2.length + t' ≤ a.length + (o.length + 1) + t2 := j3
      refine ⟨j1, by omega, by omega, ?_, ?_, ?_, fun _ z => j4 rfl (.o1 z (i5 rfl) (by rcases h1 with h | h; exact Or.inr (Or.inr (Or.inl h.2)); exact Or.inr (Or.inr (Or.inr h.2))) (Nat.le_refl _) (by omega)), ?_, ?_, fun _ => j5 (Or.inr (Or.inl rfl)), ?_, ?_⟩ <;> (intro q; omega)
  · intro _ _ _ _ ih
    exact ih
  · intro w t t' o r ih1 ih2
    intro q hw
    obtain ⟨i1, i2, i3, i4, -, i5, -, -, -, i6, -⟩ := ih1 q hw
    have i3' : o.length + t ≤ 0 + t' := i3
    have j := ih2 i1 hw
    match r, j with
    | Sum.inr (t2, f), ⟨j1, j2, j3⟩ => exact ⟨by omega, j2, j3⟩
    | Sum.inl (t2, o2), ⟨j1, j2, j3, _, _, _, _, _, j4, _, j5, j6⟩ =>
      have i4' := i4 (Or.inr (Or.inl rfl))
      refine ⟨j1, by omega, by show o2.length + t ≤ 0 + t2; omega, fun _ => by omega, ?_, ?_, ?_, fun _ => j4 rfl ((i5 rfl).up (by omega)), ?_, fun _ => j6 rfl (i6 (Or.inl rfl)), fun _ => j5 (Or.inr rfl), ?_⟩ <;> (intro q; omega)
  · intro w t a h1
    intro q hw
    refine ⟨q, Nat.le_refl _, Nat.le_refl _, ?_, ?_, ?_, ?_, ?_, fun _ z => z, ?_, fun _ => h1, fun _ z => z⟩ <;> (intro q; omega)
  · intro _ _ _ h1 h2
    exact fun q _ => ⟨Nat.le_refl _, q, Or.inr rfl⟩
  · intro _ _ _ _ _ h1 h2 ih
    intro q hw
    obtain ⟨i1, i2, i3⟩ := ih (by omega) (by omega)
    exact ⟨by omega, i2, i3⟩
  · intro w t t' a o c r h1 h2 ih1 ih2
    intro q hw
    obtain ⟨i1, i2, i3, i4, -, i5, -, -, -, i6, -⟩ := ih1 (by omega) hw
    have i3' : o.length + (t + 1) ≤ 0 + t' := i3
    have j := ih2 i1 hw
    match r, j with
    | Sum.inr (t2, f), ⟨j1, j2, j3⟩ => exact ⟨by omega, j2, j3⟩
    | Sum.inl (t2, o2), ⟨j1, j2, j3, _, _, _, _, _, j4, _, j5, j6⟩ =>
      have i4' := i4 (Or.inr (Or.inl rfl))
      rw [List.length_append, List.length_append] at j3
      have j3' : o2.length + t' ≤ a.length + (o.length + 1) + t2 := j3
      refine ⟨j1, by omega, by omega, ?_, ?_, ?_, ?_, ?_, fun _ z => j4 rfl (.o1 z (i5 rfl) (by rcases h1 with h | h; exact Or.inl h.2; exact Or.inr (Or.inl h.2)) (Nat.le_refl _) (by omega)), ?_, fun _ => j5 (Or.inr rfl), fun _ _ => j6 rfl (i6 (Or.inl rfl))⟩ <;> (intro q; omega)
