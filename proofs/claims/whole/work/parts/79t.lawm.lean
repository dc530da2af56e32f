/-! laws, reference side: postfix code on the pile, branches -/
/-- the reference's code of a cell -/
def cdK (c : Int32) : Int32 := if nI 0 ≤ c then nI 0 else if c ≤ -10 then nI 1 else nI 1 - c
def cdV (c : Int32) : Int32 := if nI 0 ≤ c then c else if c ≤ -10 then -10 - c else nI 0
def CM (I : mI) : Nat → List Int32 → Prop
  | _, [] => True
  | p, c :: cs => I 414 p = cdK c ∧ I 415 p = cdV c ∧ isC c ∧ CM I (p + 1) cs
def PIL (I : mI) : List Int32 → Prop
  | [] => True
  | x :: st => I 418 st.length = x ∧ PIL I st
theorem CM.cg {I J : mI} (e : ∀ j, J 414 j = I 414 j) (e2 : ∀ j, J 415 j = I 415 j) : ∀ {cs : List Int32} {p : Nat}, CM I p cs → CM J p cs
  | [], _, _ => trivial
  | _ :: _, p, h => ⟨(e p).trans h.1, (e2 p).trans h.2.1, h.2.2.1, CM.cg e e2 h.2.2.2⟩
theorem PIL.cg {I J : mI} : ∀ {st : List Int32}, PIL I st → (∀ j, j < st.length → J 418 j = I 418 j) → PIL J st
  | [], _, _ => trivial
  | x :: st, h, e => ⟨(e _ (Nat.lt_succ_self _)).trans h.1, PIL.cg h.2 fun j hj => e j (Nat.lt_succ_of_lt hj)⟩
abbrev mtA (a j : Nat) : Prop := a = 418 ∨ a = 384 ∧ j = 51
theorem m_runs (d : Nat) {S : mS} {L : mJ} (G : Gd S) {to : Nat} (ht : to ≤ 840) : ∀ (cs : List Int32) (p : Nat) (st : List Int32) (I : mI) (dd : Nat), CM I p cs → PIL I st → dpP cs st.length = some dd → st.length ≤ 24 → p + cs.length ≤ to → (evP (I 417) cs st = none → ∃ J, evk zcod none d zc_X12_termOf 5 [(0, .ref 384), (2, .int (nI to)), (3, .int (nI st.length)), (4, .int (nI p))] [] (S, I, L) = some (some (.int (nI 0)), (S, J, L)) ∧ Fi mtA I J ∧ J 384 51 = nI 1) ∧ ∀ st', evP (I 417) cs st = some st' → ∃ J, evk zcod none d zc_X12_termOf 5 [(0, .ref 384), (2, .int (nI to)), (3, .int (nI st.length)), (4, .int (nI p))] [] (S, I, L) = evk zcod none d zc_X12_termOf 5 [(0, .ref 384), (2, .int (nI to)), (3, .int (nI st'.length)), (4, .int (nI (p + cs.length)))] [] (S, J, L) ∧ PIL J st' ∧ st'.length = dd ∧ Fi (fun a _ => a = 418) I J
  | [], p, st, I, dd, hc, hs, hd, h24, hp => by
    refine ⟨(fun q => by cases q), fun st' q => ?_⟩
    have e : st = st' := Option.some.inj q
    subst e
    exact ⟨I, rfl, hs, Option.some.inj hd, Fi.rf⟩
  | c :: cs, p, st, I, dd, hc, hs, hd, h24, hp => by
    obtain ⟨c1, c1', c2, c3⟩ := hc
    have hl : (c :: cs).length = cs.length + 1 := rfl
    rw [hl] at hp
    have nle : ¬ nI to ≤ nI p := nI_ge (by omega) (by omega)
    have xp : zin (nI p) 840 = True := ixT (by omega) (by omega)
    have xi : zix (nI p) = p := ixI (by omega)
    have push : ∀ x : Int32, evk zcod none d zc_X12_termOf 5 [(0, .ref 384), (2, .int (nI to)), (3, .int (nI st.length)), (4, .int (nI p))] [] (S, I, L) = evk zcod none d zc_X12_termOf 5 [(0, .ref 384), (2, .int (nI to)), (3, .int (nI (st.length + 1))), (4, .int (nI (p + 1)))] [] (S, uI I 418 st.length x, L) → dpP cs (st.length + 1) = some dd → st.length < 24 → (evP (I 417) cs (x :: st) = none → ∃ J, evk zcod none d zc_X12_termOf 5 [(0, .ref 384), (2, .int (nI to)), (3, .int (nI st.length)), (4, .int (nI p))] [] (S, I, L) = some (some (.int (nI 0)), (S, J, L)) ∧ Fi mtA I J ∧ J 384 51 = nI 1) ∧ ∀ st', evP (I 417) cs (x :: st) = some st' → ∃ J, evk zcod none d zc_X12_termOf 5 [(0, .ref 384), (2, .int (nI to)), (3, .int (nI st.length)), (4, .int (nI p))] [] (S, I, L) = evk zcod none d zc_X12_termOf 5 [(0, .ref 384), (2, .int (nI to)), (3, .int (nI st'.length)), (4, .int (nI (p + (c :: cs).length)))] [] (S, J, L) ∧ PIL J st' ∧ st'.length = dd ∧ Fi (fun a _ => a = 418) I J := by
      intro x e hd' h24'
      have f0 : Fi (fun a _ => a = 418) I (uI I 418 st.length x) := Fi.u Fi.rf rfl
      have ih := m_runs d (L := L) G ht cs (p + 1) (x :: st) (uI I 418 st.length x) dd (CM.cg (fun j => f0 414 j (by omega)) (fun j => f0 415 j (by omega)) c3) ⟨uI_same _ _ _ _, hs.cg fun j hj => uI_ix (by omega)⟩ hd' (by show st.length + 1 ≤ 24; omega) (by omega)
      rw [show uI I 418 st.length x 417 = I 417 from f0.row 417 fun j => by omega] at ih
      rw [hl, e]
      refine ⟨fun q => ?_, fun st' q => ?_⟩
      · obtain ⟨J, e2, f2, b2⟩ := ih.1 q
        exact ⟨J, e2, (f0.up fun _ _ q => Or.inl q).tr f2, b2⟩
      · obtain ⟨J, e2, s2, l2, f2⟩ := ih.2 st' q
        refine ⟨J, ?_, s2, l2, f0.tr f2⟩
        rw [show p + (cs.length + 1) = p + 1 + cs.length by omega]
        exact e2
    have dd0 : dpP (c :: cs) st.length = if nI 0 ≤ c ∨ c ≤ -10 then (if st.length < 24 then dpP cs (st.length + 1) else none) else if st.length < 2 then none else dpP cs (st.length - 1) := rfl
    rw [dd0] at hd
    have fin : ∀ x : Int32, st.length < 24 → evk zcod none d zc_X12_termOf 58 [(0, .ref 384), (2, .int (nI to)), (3, .int (nI st.length)), (4, .int (nI p))] [.int x, .int (nI st.length), .ref 418] (S, I, L) = evk zcod none d zc_X12_termOf 5 [(0, .ref 384), (2, .int (nI to)), (3, .int (nI (st.length + 1))), (4, .int (nI (p + 1)))] [] (S, uI I 418 st.length x, L) := by
      intro x hx
      rw [B_X12_termOf_58]
      simp only [gM G, true_and]
      rw [if_pos (ixP (by omega) (by omega)), ixI (by omega), nI_add, B_X12_termOf_159, nI_add]
    by_cases a0 : nI 0 ≤ c
    · rw [if_pos (Or.inl a0)] at hd
      by_cases a24 : st.length < 24
      · rw [if_pos a24] at hd
        have ev : evP (I 417) (c :: cs) st = evP (I 417) cs (c :: st) := by
          show (if nI 0 ≤ c then evP (I 417) cs (c :: st) else _) = _
          rw [if_pos a0]
        rw [ev]
        refine push c ?_ hd a24
        have k0 : cdK c = nI 0 := if_pos a0
        have v0 : cdV c = c := if_pos a0
        rw [B_X12_termOf_5, if_neg nle]
        simp only [gM G, if_true, true_and, xp, xi, c1, c1', k0, v0]
        rw [if_neg (by decide +kernel), if_neg (fun q => q trivial)]
        exact fin c a24
      · rw [if_neg a24] at hd
        cases hd
    · by_cases a1 : c ≤ -10
      · rw [if_pos (Or.inr a1)] at hd
        by_cases a24 : st.length < 24
        · rw [if_pos a24] at hd
          have ev : evP (I 417) (c :: cs) st = evP (I 417) cs (I 417 ((-10 - c).toInt.toNat) :: st) := by
            show (if nI 0 ≤ c then evP (I 417) cs (c :: st) else if c ≤ -10 then evP (I 417) cs (I 417 ((-10 - c).toInt.toNat) :: st) else _) = _
            rw [if_neg a0, if_pos a1]
          rw [ev]
          refine push _ ?_ hd a24
          obtain ⟨k, hk, ck⟩ : ∃ k, k < 9 ∧ c = -10 - nI k := by
            rcases c2 with h | h | h | h | h | h
            · exact absurd h a0
            · exact h
            · rw [h] at a1; exact absurd a1 (by decide +kernel)
            · rw [h] at a1; exact absurd a1 (by decide +kernel)
            · rw [h] at a1; exact absurd a1 (by decide +kernel)
            · rw [h] at a1; exact absurd a1 (by decide +kernel)
          have ek : (-10 - c).toInt.toNat = k := by
            rw [ck, var_of k hk, t_nI (by omega)]
            rfl
          have k0 : cdK c = nI 1 := (if_neg a0).trans (if_pos a1)
          have v0 : cdV c = nI k := ((if_neg a0).trans (if_pos a1)).trans (by rw [ck, var_of k hk])
          have xk : zin (nI k) 9 = True := ixT hk (by omega)
          have xki : zix (nI k) = k := ixI (by omega)
          rw [B_X12_termOf_5, if_neg nle, ek]
          simp only [gM G, if_true, true_and, xp, xi, c1, c1', k0, v0]
          rw [if_neg (by decide +kernel), if_pos (by decide +kernel), B_X12_termOf_46]
          simp only [gM G, if_true, true_and, xp, xi, c1, c1', k0, v0, xk, xki]
          exact fin (I 417 k) a24
        · rw [if_neg a24] at hd
          cases hd
      · rw [if_neg (by rintro (q | q); exact a0 q; exact a1 q)] at hd
        by_cases a2 : st.length < 2
        · rw [if_pos a2] at hd
          cases hd
        · rw [if_neg a2] at hd
          have ops := op_of c2 a0 a1
          match st, hs, a2, hd, h24, push, fin with
          | [], hs, a2, hd, h24, push, fin => exact absurd (show 0 < 2 by omega) a2
          | [x], hs, a2, hd, h24, push, fin => exact absurd (show 1 < 2 by omega) a2
          | b :: a :: st', hs, a2, hd, h24, push, fin =>
            have hlen : (b :: a :: st').length = st'.length + 2 := rfl
            rw [hlen] at hd h24 ⊢
            have hb : I 418 (st'.length + 1) = b := hs.1
            have ha : I 418 st'.length = a := hs.2.1
            have ev : evP (I 417) (c :: cs) (b :: a :: st') = if c = -4 ∧ b = nI 0 then none else evP (I 417) cs (jnS c a b :: st') := by
              show (if nI 0 ≤ c then _ else if c ≤ -10 then _ else if c = -4 ∧ b = nI 0 then none else evP (I 417) cs (jnS c a b :: st')) = _
              rw [if_neg a0, if_neg a1]
            have k0 : cdK c = nI 1 - c := (if_neg a0).trans (if_neg a1)
            have m1 : nI (st'.length + 2) + (-1 : Int32) = nI (st'.length + 1) := by
              rw [show nI (st'.length + 2) + (-1 : Int32) = nI (st'.length + 2) - nI 1 by rw [Int32.sub_eq_add_neg, show -(nI 1) = (-1 : Int32) from by decide +kernel], pk_sub (by omega), show st'.length + 2 - 1 = st'.length + 1 by omega]
            have m2 : nI (st'.length + 1) - nI 1 = nI st'.length := by rw [pk_sub (by omega), show st'.length + 1 - 1 = st'.length by omega]
            have x1 : zin (nI (st'.length + 1)) 400 = True := ixT (by omega) (by omega)
            have x1i : zix (nI (st'.length + 1)) = st'.length + 1 := ixI (by omega)
            have x2 : zin (nI st'.length) 400 = True := ixT (by omega) (by omega)
            have x2i : zix (nI st'.length) = st'.length := ixI (by omega)
            have e65 : evk zcod none d zc_X12_termOf 5 [(0, .ref 384), (2, .int (nI to)), (3, .int (nI (st'.length + 2))), (4, .int (nI p))] [] (S, I, L) = (if ¬ nI 1 - c = nI 5 then evk zcod none d zc_X12_termOf 104 [(0, .ref 384), (2, .int (nI to)), (3, .int (nI (st'.length + 1))), (4, .int (nI p)), (5, .int (nI 1 - c)), (6, .int a), (7, .int b)] [] (S, I, L) else if ¬ b = nI 0 then evk zcod none d zc_X12_termOf 104 [(0, .ref 384), (2, .int (nI to)), (3, .int (nI (st'.length + 1))), (4, .int (nI p)), (5, .int (nI 1 - c)), (6, .int a), (7, .int b)] [] (S, I, L) else some (some (.int (nI 0)), (S, uI I 384 51 (nI 1), L))) := by
              rw [B_X12_termOf_5, if_neg nle]
              simp only [gM G, if_true, true_and, xp, xi, c1, c1', k0]
              rw [if_pos (by rcases ops with h | h | h | h <;> (rw [h]; decide +kernel)), B_X12_termOf_65]
              simp only [gM G, m1, m2, x1, x1i, x2, x2i, hb, ha, if_true, true_and, b1]
            have e104 : ¬ (c = -4 ∧ b = nI 0) → evk zcod none d zc_X12_termOf 104 [(0, .ref 384), (2, .int (nI to)), (3, .int (nI (st'.length + 1))), (4, .int (nI p)), (5, .int (nI 1 - c)), (6, .int a), (7, .int b)] [] (S, I, L) = evk zcod none d zc_X12_termOf 5 [(0, .ref 384), (2, .int (nI to)), (3, .int (nI (st'.length + 1))), (4, .int (nI (p + 1)))] [] (S, uI I 418 st'.length (jnS c a b), L) := by
              intro z
              have f158 : ∀ x, evk zcod none d zc_X12_termOf 158 [(0, .ref 384), (2, .int (nI to)), (3, .int (nI (st'.length + 1))), (4, .int (nI p))] [.int x, .int (nI st'.length), .ref 418] (S, I, L) = evk zcod none d zc_X12_termOf 5 [(0, .ref 384), (2, .int (nI to)), (3, .int (nI (st'.length + 1))), (4, .int (nI (p + 1)))] [] (S, uI I 418 st'.length x, L) := by
                intro x
                rw [B_X12_termOf_158]
                simp only [gM G, true_and, x2, x2i, if_true]
                rw [B_X12_termOf_159, nI_add]
              rw [B_X12_termOf_104]
              simp only [gM G, if_true, m2]
              rcases ops with h | h | h | h
              · rw [h, if_neg (by decide +kernel), f158]
                rfl
              · rw [h, if_pos (by decide +kernel), B_X12_termOf_125, if_neg (by decide +kernel), f158]
                rfl
              · rw [h, if_pos (by decide +kernel), B_X12_termOf_125, if_pos (by decide +kernel), B_X12_termOf_139, if_neg (by decide +kernel), f158]
                rfl
              · have hb0 : ¬ b = nI 0 := fun q => z ⟨h, q⟩
                rw [h, if_pos (by decide +kernel), B_X12_termOf_125, if_pos (by decide +kernel), B_X12_termOf_139, if_pos (by decide +kernel), B_X12_termOf_153, if_neg hb0, f158]
                unfold jnS
                rw [if_neg (by decide +kernel), if_neg (by decide +kernel), if_neg (by decide +kernel), if_neg hb0]
            rw [e65, ev]
            have f0 : Fi (fun a _ => a = 418) I (uI I 418 st'.length (jnS c a b)) := Fi.u Fi.rf rfl
            have ih := m_runs d (L := L) G ht cs (p + 1) (jnS c a b :: st') (uI I 418 st'.length (jnS c a b)) dd (CM.cg (fun j => f0 414 j (by omega)) (fun j => f0 415 j (by omega)) c3) ⟨uI_same _ _ _ _, hs.2.2.cg fun j hj => uI_ix (by omega)⟩ (by rw [show st'.length + 2 - 1 = st'.length + 1 by omega] at hd; exact hd) (by show st'.length + 1 ≤ 24; omega) (by omega)
            rw [show uI I 418 st'.length (jnS c a b) 417 = I 417 from f0.row 417 fun j => by omega, show (jnS c a b :: st').length = st'.length + 1 from rfl] at ih
            by_cases z : c = -4 ∧ b = nI 0
            · rw [if_pos z, z.1, if_neg (by decide +kernel), if_neg (fun q => q z.2)]
              exact ⟨fun _ => ⟨_, rfl, Fi.u Fi.rf (Or.inr ⟨rfl, rfl⟩), uI_same _ _ _ _⟩, fun st2 q => by cases q⟩
            · rw [if_neg z]
              have go : (if ¬ nI 1 - c = nI 5 then evk zcod none d zc_X12_termOf 104 [(0, .ref 384), (2, .int (nI to)), (3, .int (nI (st'.length + 1))), (4, .int (nI p)), (5, .int (nI 1 - c)), (6, .int a), (7, .int b)] [] (S, I, L) else if ¬ b = nI 0 then evk zcod none d zc_X12_termOf 104 [(0, .ref 384), (2, .int (nI to)), (3, .int (nI (st'.length + 1))), (4, .int (nI p)), (5, .int (nI 1 - c)), (6, .int a), (7, .int b)] [] (S, I, L) else some (some (.int (nI 0)), (S, uI I 384 51 (nI 1), L))) = evk zcod none d zc_X12_termOf 5 [(0, .ref 384), (2, .int (nI to)), (3, .int (nI (st'.length + 1))), (4, .int (nI (p + 1)))] [] (S, uI I 418 st'.length (jnS c a b), L) := by
                by_cases w : c = -4
                · rw [if_neg (by rw [w]; decide +kernel), if_pos (fun q => z ⟨w, q⟩), e104 z]
                · rw [if_pos (by rcases ops with h | h | h | h <;> first | exact absurd h w | (rw [h]; decide +kernel)), e104 z]
              rw [go, hl]
              refine ⟨fun q => ?_, fun st2 q => ?_⟩
              · obtain ⟨J, e2, f2, b2⟩ := ih.1 q
                exact ⟨J, e2, (f0.up fun _ _ q => Or.inl q).tr f2, b2⟩
              · obtain ⟨J, e2, s2, l2, f2⟩ := ih.2 st2 q
                refine ⟨J, ?_, s2, l2, f0.tr f2⟩
                rw [show p + (cs.length + 1) = p + 1 + cs.length by omega]
                exact e2
theorem m_termOf (d : Nat) {S : mS} {I : mI} {L : mJ} (G : Gd S) {p to : Nat} {e : List Int32} (h1 : CM I p e) (h2 : EX 15 e) (h3 : p + e.length = to) (ht : to ≤ 840) : ∃ J, evM zcod (d + 1) 190 [.ref 384, .int (nI p), .int (nI to)] (S, I, L) = some (some (.int ((evO (I 417) e).getD 0)), (S, J, L)) ∧ Fi mtA I J ∧ J 384 51 = (if (evO (I 417) e).isSome = true then I 384 51 else nI 1) := by
  obtain ⟨r1, r2⟩ := m_runs d (L := L) G ht e p [] I 1 h1 trivial (h2.dp 0 (by omega)) (Nat.zero_le _) (by omega)
  have ev := h2.ev (I 417) []
  rw [E_X12_termOf, B_X12_termOf_0]
  cases o : evO (I 417) e with
  | none =>
    rw [o] at ev
    obtain ⟨J, e1, f1, b1⟩ := r1 ev
    exact ⟨J, e1, f1, b1⟩
  | some x =>
    rw [o] at ev
    obtain ⟨J, e1, s1, -, f1⟩ := r2 [x] ev
    refine ⟨J, ?_, f1.up fun _ _ q => Or.inl q, f1 384 51 (by omega)⟩
    rw [show nI 0 = nI ([] : List Int32).length from rfl, e1, B_X12_termOf_5, h3, if_pos (Int32.le_refl _), B_X12_termOf_165]
    have hx : J 418 0 = x := s1.1
    simp only [gM G, if_true, true_and, show zin (nI 0) 400 = True from ixT (by omega) (by omega), show zix (nI 0) = 0 from ixI (by omega), hx]
    rfl
/-- the reference's branches of a law, from b on to last -/
def MW (I : mI) (qe last : Nat) : Nat → List (List Int32 × List Int32 × List Int32) → List Int32 → Prop
  | b, [], e => b + 1 = last ∧ I 409 b = nI 0 ∧ ∃ p q, I 412 b = nI p ∧ I 413 b = nI q ∧ p + e.length = q ∧ q ≤ qe ∧ CM I p e ∧ EX 15 e ∧ 420 * (b / 130) ≤ p
  | b, (x, y, t) :: r, e => b < last ∧ I 409 b = nI 1 ∧ (∃ p0 p1 p2 p3, I 410 b = nI p0 ∧ I 411 b = nI p1 ∧ I 412 b = nI p2 ∧ I 413 b = nI p3 ∧ p0 + x.length = p1 ∧ p1 + y.length = p2 ∧ p2 + t.length = p3 ∧ p3 ≤ qe ∧ CM I p0 x ∧ EX 15 x ∧ CM I p1 y ∧ EX 15 y ∧ CM I p2 t ∧ EX 15 t ∧ 420 * (b / 130) ≤ p0) ∧ MW I qe last (b + 1) r e
theorem MW.cg {I J : mI} {qe last : Nat} (h : ∀ a, 409 ≤ a → a ≤ 415 → ∀ j, J a j = I a j) : ∀ {r : List (List Int32 × List Int32 × List Int32)} {e : List Int32} {b : Nat}, MW I qe last b r e → MW J qe last b r e
  | [], _, _, ⟨q1, q2, p, q, q3, q4, q5, q6, q7, q8⟩ => ⟨q1, (h _ (by omega) (by omega) _).trans q2, p, q, (h _ (by omega) (by omega) _).trans q3, (h _ (by omega) (by omega) _).trans q4, q5, q6, q7.cg (fun j => h _ (by omega) (by omega) j) (fun j => h _ (by omega) (by omega) j), q8⟩
  | (_, _, _) :: _, _, _, ⟨q1, q2, ⟨p0, p1, p2, p3, a1, a2, a3, a4, a5, a6, a7, a8, a9, b1, b2, b3, b4, b5⟩, q⟩ => ⟨q1, (h _ (by omega) (by omega) _).trans q2, ⟨p0, p1, p2, p3, (h _ (by omega) (by omega) _).trans a1, (h _ (by omega) (by omega) _).trans a2, (h _ (by omega) (by omega) _).trans a3, (h _ (by omega) (by omega) _).trans a4, a5, a6, a7, a8, a9.cg (fun j => h _ (by omega) (by omega) j) (fun j => h _ (by omega) (by omega) j), b1, b2.cg (fun j => h _ (by omega) (by omega) j) (fun j => h _ (by omega) (by omega) j), b3, b4.cg (fun j => h _ (by omega) (by omega) j) (fun j => h _ (by omega) (by omega) j), b5⟩, MW.cg h q⟩
theorem MW.lt {I : mI} {qe last : Nat} : ∀ {r : List (List Int32 × List Int32 × List Int32)} {e : List Int32} {b : Nat}, MW I qe last b r e → b < last
  | [], _, _, q => by have := q.1; omega
  | (_, _, _) :: _, _, _, q => q.1
theorem lwB_c {v : Nat → Int32} {a b t : List Int32} {r : List (List Int32 × List Int32 × List Int32)} {e : List Int32} : lwB v ((a, b, t) :: r) e = match evO v a, evO v b with
    | some x, some y => if x < y then (evO v t).getD 0 else lwB v r e
    | _, _ => 0 := rfl
theorem m_thens (d : Nat) {S : mS} {L : mJ} (G : Gd S) {b p q : Nat} {t : List Int32} {I : mI} (hb : b < 260) (h0 : I 384 51 = nI 0) (a3 : I 412 b = nI p) (a4 : I 413 b = nI q) (a7 : p + t.length = q) (a8 : q ≤ 840) (b4 : CM I p t) (b5 : EX 15 t) : ∃ J, evk zcod none (d + 1) zc_X12_lawTells 119 [(0, .ref 384), (4, .int (nI b))] [] (S, I, L) = some (some (.int ((evO (I 417) t).getD 0)), (S, J, L)) ∧ Fi mtA I J := by
  obtain ⟨J, e1, f1, w1⟩ := m_termOf d (L := L) G b4 b5 a7 a8
  refine ⟨J, ?_, f1⟩
  have xb : zin (nI b) 260 = True := ixT hb (by omega)
  have xi : zix (nI b) = b := ixI (by omega)
  rw [B_X12_lawTells_119]
  simp only [gM G, if_true, true_and, xb, xi, a3, a4, e1, bI_eq, w1]
  cases o : evO (I 417) t with
  | none =>
    simp only [Option.isSome_none, Bool.false_eq_true, if_false]
    rw [if_neg (by decide +kernel), B_X12_lawTells_152]
    rfl
  | some x =>
    rw [show (some x : Option Int32).isSome = true from rfl, if_pos rfl, h0, if_pos rfl, B_X12_lawTells_150, B_X12_lawTells_152]
theorem m_lawB (d : Nat) {S : mS} {L : mJ} (G : Gd S) {qe last n : Nat} (hq : qe ≤ 840) (hl : last ≤ 260) (hn : n < 8) : ∀ (r : List (List Int32 × List Int32 × List Int32)) (e : List Int32) (b : Nat) (I : mI), I 384 51 = nI 0 → I 408 n = nI last → MW I qe last b r e → ∃ J, evk zcod none (d + 1) zc_X12_lawTells 39 [(0, .ref 384), (3, .int (nI n)), (4, .int (nI b))] [] (S, I, L) = some (some (.int (lwB (I 417) r e)), (S, J, L)) ∧ Fi mtA I J
  | [], e, b, I, h0, h1, ⟨q1, q2, p, q, q3, q4, q5, q6, q7, q8⟩ => by
    have xb : zin (nI b) 260 = True := ixT (by omega) (by omega)
    have xi : zix (nI b) = b := ixI (by omega)
    have yb : zin (nI n) 8 = True := ixT hn (by omega)
    have yi : zix (nI n) = n := ixI (by omega)
    rw [B_X12_lawTells_39]
    simp only [gM G, if_true, true_and, yb, yi, h1]
    rw [if_neg (nI_ge (by omega) (by omega))]
    simp only [xb, xi, q2, if_true]
    exact m_thens d G (by omega) h0 q3 q4 q5 (by omega) q7 q8.1
  | (x, y, t) :: r, e, b, I, h0, h1, ⟨q1, q2, ⟨p0, p1, p2, p3, a1, a2, a3, a4, a5, a6, a7, a8, a9, c1, c2, c3, c4, c5⟩, q⟩ => by
    have hb : b < 260 := by omega
    have xb : zin (nI b) 260 = True := ixT hb (by omega)
    have xi : zix (nI b) = b := ixI (by omega)
    obtain ⟨J, e1, f1, w1⟩ := m_termOf d (L := L) G a9 c1 a5 (by omega)
    have g : ∀ a, 407 ≤ a → a ≤ 415 → ∀ j, J a j = I a j := fun a u v j => f1 a j (by unfold mtA; omega)
    have v1 : J 417 = I 417 := f1.row 417 fun j => by unfold mtA; omega
    obtain ⟨K, e2, f2, w2⟩ := m_termOf d (L := L) G (c2.cg (fun j => g 414 (by omega) (by omega) j) (fun j => g 415 (by omega) (by omega) j)) c3 a6 (by omega)
    have g2 : ∀ a, 407 ≤ a → a ≤ 415 → ∀ j, K a j = I a j := fun a u v j => (f2 a j (by unfold mtA; omega)).trans (g a u v j)
    have v2 : K 417 = I 417 := (f2.row 417 fun j => by unfold mtA; omega).trans v1
    rw [v1] at e2 w2
    have yb : zin (nI n) 8 = True := ixT hn (by omega)
    have yi : zix (nI n) = n := ixI (by omega)
    rw [B_X12_lawTells_39]
    simp only [gM G, if_true, true_and, yb, yi, h1]
    rw [if_neg (nI_ge q1 (by omega))]
    simp only [xb, xi, q2, if_true, a1, a2, e1, bI_eq]
    rw [if_neg (by decide +kernel)]
    have g11 : J 411 b = nI p1 := (g 411 (by omega) (by omega) b).trans a2
    have g12 : J 412 b = nI p2 := (g 412 (by omega) (by omega) b).trans a3
    simp only [gM G, if_true, true_and, xb, xi, g11, g12, e2, bI_eq, w2, w1, h0]
    rw [lwB_c]
    cases o : evO (I 417) x with
    | none =>
      refine ⟨K, ?_, f1.tr f2⟩
      simp only [Option.isSome_none, if_false, Bool.false_eq_true, ite_self]
      rw [if_neg (by decide +kernel)]
      rfl
    | some u =>
      cases o2 : evO (I 417) y with
      | none =>
        refine ⟨K, ?_, f1.tr f2⟩
        simp only [Option.isSome_none, if_false, Bool.false_eq_true]
        rw [if_neg (by decide +kernel)]
        rfl
      | some w =>
        simp only [Option.isSome_some, if_true, Option.getD_some]
        have h0' : K 384 51 = nI 0 := by
          rw [w2, w1, h0, o, o2]
          rfl
        rw [B_X12_lawTells_109]
        by_cases c : u < w
        · rw [if_pos c, if_pos c]
          obtain ⟨K2, e3, f3⟩ := m_thens d (L := L) G hb h0' ((g2 _ (by omega) (by omega) _).trans a3) ((g2 _ (by omega) (by omega) _).trans a4) a7 (by omega) (c4.cg (fun j => g2 414 (by omega) (by omega) j) (fun j => g2 415 (by omega) (by omega) j)) c5.1
          rw [v2] at e3
          exact ⟨K2, e3, (f1.tr f2).tr f3⟩
        · rw [if_neg c, if_neg c, B_X12_lawTells_153, nI_add]
          obtain ⟨K2, e3, f3⟩ := m_lawB d (L := L) G hq hl hn r e (b + 1) K h0' ((g2 _ (by omega) (by omega) _).trans h1) (q.cg fun a u v j => g2 a (by omega) v j)
          rw [v2] at e3
          exact ⟨K2, e3, (f1.tr f2).tr f3⟩
/-- what the reference tells of a law: a law that isn't told has no branches -/
theorem m_lawTells (d : Nat) {S : mS} {I : mI} {L : mJ} (G : Gd S) {v k first last qe : Nat} (hq : qe ≤ 840) (hv : v < 2) (hk : k < 4) (h18 : I 384 18 = nI v) (h1 : I 407 (4 * v + k) = nI first) (h2 : I 408 (4 * v + k) = nI last) (hl : last ≤ 260) (pl : Int32) {r : List (List Int32 × List Int32 × List Int32)} {e : List Int32} (h : first = last ∧ pl = lwB (I 417) r e ∨ MW I qe last first r e) : ∃ J, evM zcod (d + 2) 206 [.ref 384, .int (nI k), .int pl] (S, I, L) = some (some (.int (lwB (I 417) r e)), (S, J, L)) ∧ Fi mtA I J := by
  have hn : 4 * v + k < 8 := by omega
  have at' : nI 4 * nI v + nI k = nI (4 * v + k) := (by decide +kernel : ∀ v, v < 2 → ∀ k, k < 4 → nI 4 * nI v + nI k = nI (4 * v + k)) v hv k hk
  have xb : zin (nI (4 * v + k)) 8 = True := ixT hn (by omega)
  have xi : zix (nI (4 * v + k)) = 4 * v + k := ixI (by omega)
  rw [E_X12_lawTells, B_X12_lawTells_0]
  simp only [gM G, if_true, true_and, h18, at', xb, xi, h1, h2]
  rcases h with ⟨q1, q2⟩ | q
  · rw [q1, if_neg (fun q => q rfl), q2]
    exact ⟨I, rfl, Fi.rf⟩
  · have lt := q.lt
    rw [if_pos (by rw [i_eq, t_nI (by omega), t_nI (by omega)]; omega), B_X12_lawTells_26]
    have f0 : Fi mtA I (uI I 384 51 (nI 0)) := Fi.u Fi.rf (Or.inr ⟨rfl, rfl⟩)
    simp only [gM G, if_true, true_and, b0, xb, xi]
    rw [f0 407 (4 * v + k) (by unfold mtA; omega), h1]
    obtain ⟨J, e1, f1⟩ := m_lawB d (L := L) G hq hl hn r e first (uI I 384 51 (nI 0)) (uI_same _ _ _ _) ((f0 408 _ (by unfold mtA; omega)).trans h2) (q.cg fun a u v j => f0 a j (by unfold mtA; omega))
    rw [f0.row 417 fun j => by unfold mtA; omega] at e1
    exact ⟨J, e1, f0.tr f1⟩
