/-! postfix code: what it makes of a stack (the top first); none: divided by 0, or not well formed -/
def isC (c : Int32) : Prop := nI 0 ≤ c ∨ (∃ k, k < 9 ∧ c = -10 - nI k) ∨ c = -1 ∨ c = -2 ∨ c = -3 ∨ c = -4
def evP (v : Nat → Int32) : List Int32 → List Int32 → Option (List Int32)
  | [], st => some st
  | c :: cs, st => if nI 0 ≤ c then evP v cs (c :: st) else if c ≤ -10 then evP v cs (v ((-10 - c).toInt.toNat) :: st) else match st with
    | b :: a :: st' => if c = -4 ∧ b = nI 0 then none else evP v cs (jnS c a b :: st')
    | _ => none
/-- how deep it goes: none where it would pass 24, or want what isn't there -/
def dpP : List Int32 → Nat → Option Nat
  | [], d => some d
  | c :: cs, d => if nI 0 ≤ c ∨ c ≤ -10 then (if d < 24 then dpP cs (d + 1) else none) else if d < 2 then none else dpP cs (d - 1)
def LCf (g : Nat → Int32) : Nat → List Int32 → Prop
  | _, [] => True
  | p, c :: cs => g p = c ∧ isC c ∧ LCf g (p + 1) cs
abbrev LC (I : mI) : Nat → List Int32 → Prop := LCf (I 18)
theorem LCf.cg {f g : Nat → Int32} (e : ∀ j, g j = f j) : ∀ {cs : List Int32} {p : Nat}, LCf f p cs → LCf g p cs
  | [], _, _ => trivial
  | _ :: _, p, h => ⟨(e p).trans h.1, h.2.1, LCf.cg e h.2.2⟩
def STK (I : mI) : List Int32 → Prop
  | [] => True
  | x :: st => I 55 st.length = x ∧ STK I st
theorem LC.cg {I J : mI} (e : ∀ j, J 18 j = I 18 j) {cs : List Int32} {p : Nat} (h : LC I p cs) : LC J p cs := LCf.cg e h
theorem STK.cg {I J : mI} : ∀ {st : List Int32}, STK I st → (∀ j, j < st.length → J 55 j = I 55 j) → STK J st
  | [], _, _ => trivial
  | x :: st, h, e => ⟨(e _ (Nat.lt_succ_self _)).trans h.1, STK.cg h.2 fun j hj => e j (Nat.lt_succ_of_lt hj)⟩
theorem op_of {c : Int32} (h : isC c) (h0 : ¬ nI 0 ≤ c) (h1 : ¬ c ≤ -10) : c = -1 ∨ c = -2 ∨ c = -3 ∨ c = -4 := by
  rcases h with h | ⟨k, hk, h⟩ | h | h | h | h
  · exact absurd h h0
  · exfalso
    apply h1
    rw [h]
    have : ∀ k, k < 9 → (-10 - nI k : Int32) ≤ -10 := by decide +kernel
    exact this k hk
  · exact Or.inl h
  · exact Or.inr (Or.inl h)
  · exact Or.inr (Or.inr (Or.inl h))
  · exact Or.inr (Or.inr (Or.inr h))
theorem s_runs (d : Nat) {S : mS} {L : mJ} (G : Gd S) {u : Nat} (hu2 : u ≤ 432) : ∀ (cs : List Int32) (p n : Nat) (st : List Int32) (I : mI) (dd : Nat), I 17 2 = nI u → LC I p cs → STK I st → dpP cs st.length = some dd → st.length ≤ 24 → p + cs.length ≤ u → n + cs.length ≤ u → (evP (I 54) cs st = none → ∃ J, evk zcod none (d + 1) zc_X7_valueOf 14 [(0, .ref 53), (2, .int (nI p)), (3, .int (nI st.length)), (4, .int (nI n))] [] (S, I, L) = some (some (.int (nI 0)), (S, J, L)) ∧ Fi (fun a _ => a = 55) I J) ∧ ∀ st', evP (I 54) cs st = some st' → ∃ J, evk zcod none (d + 1) zc_X7_valueOf 14 [(0, .ref 53), (2, .int (nI p)), (3, .int (nI st.length)), (4, .int (nI n))] [] (S, I, L) = evk zcod none (d + 1) zc_X7_valueOf 14 [(0, .ref 53), (2, .int (nI (p + cs.length))), (3, .int (nI st'.length)), (4, .int (nI (n + cs.length)))] [] (S, J, L) ∧ STK J st' ∧ st'.length = dd ∧ Fi (fun a _ => a = 55) I J
  | [], p, n, st, I, dd, hu, hc, hs, hd, h24, hp, hn => by
    refine ⟨(fun q => by cases q), fun st' q => ?_⟩
    have e : st = st' := Option.some.inj q
    subst e
    exact ⟨I, rfl, hs, Option.some.inj hd, Fi.rf⟩
  | c :: cs, p, n, st, I, dd, hu, hc, hs, hd, h24, hp, hn => by
    obtain ⟨c1, c2, c3⟩ := hc
    have hl : (c :: cs).length = cs.length + 1 := rfl
    rw [hl] at hp hn
    have push : ∀ x : Int32, evk zcod none (d + 1) zc_X7_valueOf 14 [(0, .ref 53), (2, .int (nI p)), (3, .int (nI st.length)), (4, .int (nI n))] [] (S, I, L) = evk zcod none (d + 1) zc_X7_valueOf 14 [(0, .ref 53), (2, .int (nI (p + 1))), (3, .int (nI (st.length + 1))), (4, .int (nI (n + 1)))] [] (S, uI I 55 st.length x, L) → dpP cs (st.length + 1) = some dd → st.length < 24 → (evP (I 54) cs (x :: st) = none → ∃ J, evk zcod none (d + 1) zc_X7_valueOf 14 [(0, .ref 53), (2, .int (nI p)), (3, .int (nI st.length)), (4, .int (nI n))] [] (S, I, L) = some (some (.int (nI 0)), (S, J, L)) ∧ Fi (fun a _ => a = 55) I J) ∧ ∀ st', evP (I 54) cs (x :: st) = some st' → ∃ J, evk zcod none (d + 1) zc_X7_valueOf 14 [(0, .ref 53), (2, .int (nI p)), (3, .int (nI st.length)), (4, .int (nI n))] [] (S, I, L) = evk zcod none (d + 1) zc_X7_valueOf 14 [(0, .ref 53), (2, .int (nI (p + (c :: cs).length))), (3, .int (nI st'.length)), (4, .int (nI (n + (c :: cs).length)))] [] (S, J, L) ∧ STK J st' ∧ st'.length = dd ∧ Fi (fun a _ => a = 55) I J := by
      intro x e hd' h24'
      have f0 : Fi (fun a _ => a = 55) I (uI I 55 st.length x) := Fi.u Fi.rf rfl
      have ih := s_runs d (L := L) G hu2 cs (p + 1) (n + 1) (x :: st) (uI I 55 st.length x) dd ((f0 17 2 (by omega)).trans hu) (LC.cg (fun j => f0 18 j (by omega)) c3) ⟨uI_same _ _ _ _, hs.cg fun j hj => uI_ix (by omega)⟩ hd' (by show st.length + 1 ≤ 24; omega) (by omega) (by omega)
      rw [show uI I 55 st.length x 54 = I 54 from f0.row 54 fun j => by omega] at ih
      rw [hl, e]
      refine ⟨fun q => ?_, fun st' q => ?_⟩
      · obtain ⟨J, e2, f2⟩ := ih.1 q
        exact ⟨J, e2, f0.tr f2⟩
      · obtain ⟨J, e2, s2, l2, f2⟩ := ih.2 st' q
        refine ⟨J, ?_, s2, l2, f0.tr f2⟩
        rw [show p + (cs.length + 1) = p + 1 + cs.length by omega, show n + (cs.length + 1) = n + 1 + cs.length by omega]
        exact e2
    have dd0 : dpP (c :: cs) st.length = if nI 0 ≤ c ∨ c ≤ -10 then (if st.length < 24 then dpP cs (st.length + 1) else none) else if st.length < 2 then none else dpP cs (st.length - 1) := rfl
    rw [dd0] at hd
    have st0 : evk zcod none (d + 1) zc_X7_valueOf 14 [(0, .ref 53), (2, .int (nI p)), (3, .int (nI st.length)), (4, .int (nI n))] [] (S, I, L) = (if nI 0 ≤ c then evk zcod none (d + 1) zc_X7_valueOf 51 [(0, .ref 53), (2, .int (nI (p + 1))), (3, .int (nI st.length)), (4, .int (nI n)), (5, .int c)] [] (S, I, L) else if (-10 : Int32) < c then evk zcod none (d + 1) zc_X7_valueOf 90 [(0, .ref 53), (2, .int (nI (p + 1))), (3, .int (nI st.length)), (4, .int (nI n)), (5, .int c)] [] (S, I, L) else evk zcod none (d + 1) zc_X7_valueOf 51 [(0, .ref 53), (2, .int (nI (p + 1))), (3, .int (nI st.length)), (4, .int (nI n)), (5, .int c)] [] (S, I, L)) := by
      rw [B_X7_valueOf_14]
      simp only [gSky G, if_true, s_lawSize _ G, hu, bI_eq, s_lawCell _ G hu hu2 (show p < 1000 by omega), if_pos (show p < u by omega), c1, nI_add]
      rw [if_neg (nI_ge (by omega) (by omega))]
    have fin : ∀ x : Int32, st.length < 24 → evk zcod none (d + 1) zc_X7_valueOf 83 [(0, .ref 53), (2, .int (nI (p + 1))), (3, .int (nI st.length)), (4, .int (nI n))] [.int x, .int (nI st.length), .ref 55] (S, I, L) = evk zcod none (d + 1) zc_X7_valueOf 14 [(0, .ref 53), (2, .int (nI (p + 1))), (3, .int (nI (st.length + 1))), (4, .int (nI (n + 1)))] [] (S, uI I 55 st.length x, L) := by
      intro x hx
      rw [B_X7_valueOf_83]
      simp only [gSky G, true_and]
      rw [if_pos (ixP hx (by omega)), ixI (by omega), nI_add, B_X7_valueOf_190, nI_add]
    by_cases a0 : nI 0 ≤ c
    · rw [if_pos (Or.inl a0)] at hd
      by_cases a24 : st.length < 24
      · rw [if_pos a24] at hd
        have ev : evP (I 54) (c :: cs) st = evP (I 54) cs (c :: st) := by
          show (if nI 0 ≤ c then evP (I 54) cs (c :: st) else _) = _
          rw [if_pos a0]
        rw [ev]
        refine push c ?_ hd a24
        rw [st0, if_pos a0, B_X7_valueOf_51]
        simp only [gSky G, if_true]
        rw [if_pos (nI_lt a24 (by omega)), B_X7_valueOf_62]
        simp only [gSky G, if_true]
        rw [if_neg (by rw [i_lt]; rw [i_le] at a0; omega)]
        exact fin c a24
      · rw [if_neg a24] at hd
        cases hd
    · by_cases a1 : c ≤ -10
      · rw [if_pos (Or.inr a1)] at hd
        by_cases a24 : st.length < 24
        · rw [if_pos a24] at hd
          have ev : evP (I 54) (c :: cs) st = evP (I 54) cs (I 54 ((-10 - c).toInt.toNat) :: st) := by
            show (if nI 0 ≤ c then evP (I 54) cs (c :: st) else if c ≤ -10 then evP (I 54) cs (I 54 ((-10 - c).toInt.toNat) :: st) else _) = _
            rw [if_neg a0, if_pos a1]
          rw [ev]
          refine push _ ?_ hd a24
          obtain ⟨k, hk, ck⟩ : ∃ k, k < 9 ∧ c = -10 - nI k := by
            rcases c2 with h | h | h | h | h | h
            · exact absurd h a0
            · exact h
            · rw [h] at a1; exact absurd a1 (by decide +kernel)
            · rw [h] at a1; exact absurd a1 (by decide +kernel)
            · rw [h] at a1; exact absurd a1 (by decide +kernel)
            · rw [h] at a1; exact absurd a1 (by decide +kernel)
          have ek : (-10 - c).toInt.toNat = k := by
            rw [ck, var_of k hk, t_nI (by omega)]
            rfl
          rw [st0, if_neg a0, if_neg (by rw [i_lt]; rw [i_le] at a1; omega), B_X7_valueOf_51]
          simp only [gSky G, if_true]
          rw [if_pos (nI_lt a24 (by omega)), B_X7_valueOf_62]
          simp only [gSky G, if_true]
          rw [if_pos (by rw [i_lt]; rw [i_le] at a0; omega), B_X7_valueOf_77, ek]
          have va := s_varOf d (I := I) (L := L) G hk
          rw [← ck] at va
          simp only [gSky G, if_true, va, bI_eq]
          exact fin (I 54 k) a24
        · rw [if_neg a24] at hd
          cases hd
      · rw [if_neg (by rintro (q | q); exact a0 q; exact a1 q)] at hd
        by_cases a2 : st.length < 2
        · rw [if_pos a2] at hd
          cases hd
        · rw [if_neg a2] at hd
          have ops := op_of c2 a0 a1
          match st, hs, a2, hd, h24, st0, push, fin with
          | [], hs, a2, hd, h24, st0, push, fin => exact absurd (show 0 < 2 by omega) a2
          | [x], hs, a2, hd, h24, st0, push, fin => exact absurd (show 1 < 2 by omega) a2
          | b :: a :: st', hs, a2, hd, h24, st0, push, fin =>
            have hlen : (b :: a :: st').length = st'.length + 2 := rfl
            rw [hlen] at hd h24 st0 ⊢
            have hb : I 55 (st'.length + 1) = b := hs.1
            have ha : I 55 st'.length = a := hs.2.1
            have ev : evP (I 54) (c :: cs) (b :: a :: st') = if c = -4 ∧ b = nI 0 then none else evP (I 54) cs (jnS c a b :: st') := by
              show (if nI 0 ≤ c then _ else if c ≤ -10 then _ else if c = -4 ∧ b = nI 0 then none else evP (I 54) cs (jnS c a b :: st')) = _
              rw [if_neg a0, if_neg a1]
            have n6 : ¬ c = -6 := by rcases ops with h | h | h | h <;> (rw [h]; decide +kernel)
            have n5 : ¬ c = -5 := by rcases ops with h | h | h | h <;> (rw [h]; decide +kernel)
            have e118 : evk zcod none (d + 1) zc_X7_valueOf 14 [(0, .ref 53), (2, .int (nI p)), (3, .int (nI (st'.length + 2))), (4, .int (nI n))] [] (S, I, L) = evk zcod none (d + 1) zc_X7_valueOf 118 [(0, .ref 53), (2, .int (nI (p + 1))), (3, .int (nI (st'.length + 2))), (4, .int (nI n)), (5, .int c), (6, .int b), (7, .int a)] [] (S, I, L) := by
              rw [st0, if_neg a0, if_pos (by rw [i_lt]; rw [i_le] at a1; omega), B_X7_valueOf_90]
              rw [pk_sub (by omega), pk_sub (by omega), show st'.length + 2 - 1 = st'.length + 1 by omega, show st'.length + 2 - 2 = st'.length by omega]
              simp only [gSky G, if_true, s_onStack _ G (show st'.length + 1 < 24 by omega), s_onStack _ G (show st'.length < 24 by omega), bI_eq, hb, ha]
              rw [if_pos n6]
            rw [e118, ev, B_X7_valueOf_118, if_neg (nI_nlt (by omega) (by omega))]
            have f0 : Fi (fun a _ => a = 55) I (uI I 55 st'.length (jnS c a b)) := Fi.u Fi.rf rfl
            have ih := s_runs d (L := L) G hu2 cs (p + 1) (n + 1) (jnS c a b :: st') (uI I 55 st'.length (jnS c a b)) dd ((f0 17 2 (by omega)).trans hu) (LC.cg (fun j => f0 18 j (by omega)) c3) ⟨uI_same _ _ _ _, hs.2.2.cg fun j hj => uI_ix (by omega)⟩ (by rw [show st'.length + 2 - 1 = st'.length + 1 by omega] at hd; exact hd) (by show st'.length + 1 ≤ 24; omega) (by omega) (by omega)
            rw [show uI I 55 st'.length (jnS c a b) 54 = I 54 from f0.row 54 fun j => by omega, show (jnS c a b :: st').length = st'.length + 1 from rfl] at ih
            have e137 : evk zcod none (d + 1) zc_X7_valueOf 137 [(0, .ref 53), (2, .int (nI (p + 1))), (3, .int (nI (st'.length + 2))), (4, .int (nI n)), (5, .int c), (6, .int b), (7, .int a)] [] (S, I, L) = evk zcod none (d + 1) zc_X7_valueOf 14 [(0, .ref 53), (2, .int (nI (p + 1))), (3, .int (nI (st'.length + 1))), (4, .int (nI (n + 1)))] [] (S, uI I 55 st'.length (jnS c a b), L) := by
              have m2 : nI (st'.length + 2) + (-2 : Int32) = nI st'.length := by
                rw [show nI (st'.length + 2) + (-2 : Int32) = nI (st'.length + 2) - nI 2 by rw [Int32.sub_eq_add_neg, show -(nI 2) = (-2 : Int32) from by decide +kernel], pk_sub (by omega), show st'.length + 2 - 2 = st'.length by omega]
              rw [B_X7_valueOf_137, if_pos n5, m2, B_X7_valueOf_172]
              simp only [gSky G, if_true, true_and, s_joined, bI_eq]
              rw [if_pos (ixP (by omega) (by omega)), ixI (by omega), nI_add, B_X7_valueOf_190, nI_add]
            by_cases z : c = -4 ∧ b = nI 0
            · rw [if_pos z, if_neg (fun q => q z.1), if_neg (fun q => q z.2), B_X7_valueOf_135]
              exact ⟨fun _ => ⟨I, rfl, Fi.rf⟩, fun st2 q => by cases q⟩
            · rw [if_neg z]
              have go : (if ¬ c = -4 then evk zcod none (d + 1) zc_X7_valueOf 137 [(0, .ref 53), (2, .int (nI (p + 1))), (3, .int (nI (st'.length + 2))), (4, .int (nI n)), (5, .int c), (6, .int b), (7, .int a)] [] (S, I, L) else if ¬ b = nI 0 then evk zcod none (d + 1) zc_X7_valueOf 137 [(0, .ref 53), (2, .int (nI (p + 1))), (3, .int (nI (st'.length + 2))), (4, .int (nI n)), (5, .int c), (6, .int b), (7, .int a)] [] (S, I, L) else evk zcod none (d + 1) zc_X7_valueOf 135 [] [] (S, I, L)) = evk zcod none (d + 1) zc_X7_valueOf 14 [(0, .ref 53), (2, .int (nI (p + 1))), (3, .int (nI (st'.length + 1))), (4, .int (nI (n + 1)))] [] (S, uI I 55 st'.length (jnS c a b), L) := by
                by_cases w : c = -4
                · rw [if_neg (fun q => q w), if_pos (fun q => z ⟨w, q⟩), e137]
                · rw [if_pos w, e137]
              rw [go, hl]
              refine ⟨fun q => ?_, fun st2 q => ?_⟩
              · obtain ⟨J, e2, f2⟩ := ih.1 q
                exact ⟨J, e2, f0.tr f2⟩
              · obtain ⟨J, e2, s2, l2, f2⟩ := ih.2 st2 q
                refine ⟨J, ?_, s2, l2, f0.tr f2⟩
                rw [show p + (cs.length + 1) = p + 1 + cs.length by omega, show n + (cs.length + 1) = n + 1 + cs.length by omega]
                exact e2
