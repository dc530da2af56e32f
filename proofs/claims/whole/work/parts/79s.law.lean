/-! laws: postfix code that is well formed, and what a law's branches tell -/
def EXc (P : Nat → List Int32 → Prop) : Prop := (∀ (q : Nat) (c : Int32), (nI 0 ≤ c ∨ ∃ k, k < 9 ∧ c = -10 - nI k) → 1 ≤ q → P q [c]) ∧ ∀ (m n q : Nat) (a b : List Int32) (c : Int32), P m a → P n b → (c = -1 ∨ c = -2 ∨ c = -3 ∨ c = -4) → m ≤ q → n + 1 ≤ q → P q (a ++ (b ++ [c]))
/-- well formed, at most q deep -/
def EX (q : Nat) (l : List Int32) : Prop := ∀ P : Nat → List Int32 → Prop, EXc P → P q l
theorem EX.a1 {q : Nat} {c : Int32} (h : nI 0 ≤ c ∨ ∃ k, k < 9 ∧ c = -10 - nI k) (h1 : 1 ≤ q) : EX q [c] := fun _ hP => hP.1 q c h h1
theorem EX.o1 {m n q : Nat} {a b : List Int32} {c : Int32} (ha : EX m a) (hb : EX n b) (h : c = -1 ∨ c = -2 ∨ c = -3 ∨ c = -4) (h1 : m ≤ q) (h2 : n + 1 ≤ q) : EX q (a ++ (b ++ [c])) := fun P hP => hP.2 m n q a b c (ha P hP) (hb P hP) h h1 h2
theorem EX.up {m n : Nat} {l : List Int32} (h : EX m l) (q : m ≤ n) : EX n l :=
  (h (fun m l => EX m l ∧ ∀ n, m ≤ n → EX n l) ⟨fun _ _ h h1 => ⟨.a1 h h1, fun _ q => .a1 h (Nat.le_trans h1 q)⟩, fun _ _ _ _ _ _ ha hb h h1 h2 => ⟨.o1 ha.1 hb.1 h h1 h2, fun _ q => .o1 ha.1 hb.1 h (Nat.le_trans h1 q) (Nat.le_trans h2 q)⟩⟩).2 n q
theorem evP_app (v : Nat → Int32) : ∀ (a b st : List Int32), evP v (a ++ b) st = (evP v a st).bind (evP v b)
  | [], _, _ => rfl
  | c :: a, b, st => by
    rw [List.cons_append]
    unfold evP
    split
    · exact evP_app v a b _
    · split
      · exact evP_app v a b _
      · match st with
        | [] => rfl
        | [_] => rfl
        | y :: x :: st' =>
          show (if c = -4 ∧ y = nI 0 then none else evP v (a ++ b) (jnS c x y :: st')) = (if c = -4 ∧ y = nI 0 then none else evP v a (jnS c x y :: st')).bind (evP v b)
          split
          · rfl
          · exact evP_app v a b _
theorem dpP_app : ∀ (a b : List Int32) (d : Nat), dpP (a ++ b) d = (dpP a d).bind (dpP b)
  | [], _, _ => rfl
  | c :: a, b, d => by
    rw [List.cons_append]
    unfold dpP
    split
    · split
      · exact dpP_app a b _
      · rfl
    · split
      · rfl
      · exact dpP_app a b _
theorem at_ge {c : Int32} (h : nI 0 ≤ c ∨ ∃ k, k < 9 ∧ c = -10 - nI k) : nI 0 ≤ c ∨ c ≤ -10 := by
  rcases h with h | ⟨k, hk, e⟩
  · exact Or.inl h
  · rw [e]
    right
    have : ∀ k, k < 9 → (-10 - nI k : Int32) ≤ -10 := by decide +kernel
    exact this k hk
theorem op_lt {c : Int32} (h : c = -1 ∨ c = -2 ∨ c = -3 ∨ c = -4) : ¬ nI 0 ≤ c ∧ ¬ c ≤ -10 := by
  rcases h with h | h | h | h <;> (rw [h]; decide +kernel)
theorem EX.dp {q : Nat} {l : List Int32} (h : EX q l) : ∀ d, d + q ≤ 24 → dpP l d = some (d + 1) := by
  refine h (fun q l => ∀ d, d + q ≤ 24 → dpP l d = some (d + 1)) ⟨?_, ?_⟩
  · intro q c h h1 d hd
    show (if nI 0 ≤ c ∨ c ≤ -10 then (if d < 24 then some (d + 1) else none) else _) = _
    rw [if_pos (at_ge h), if_pos (by omega)]
  · intro m n q a b c ia ib h h1 h2 d hd
    rw [dpP_app, ia d (by omega)]
    show dpP (b ++ [c]) (d + 1) = _
    rw [dpP_app, ib (d + 1) (by omega)]
    show (if nI 0 ≤ c ∨ c ≤ -10 then (if d + 1 + 1 < 24 then some (d + 1 + 1 + 1) else none) else if d + 1 + 1 < 2 then none else some (d + 1 + 1 - 1)) = _
    rw [if_neg (fun q => q.elim (op_lt h).1 (op_lt h).2), if_neg (by omega)]
    rfl
/-- what an expression is worth; none: divided by 0 -/
def evO (v : Nat → Int32) (l : List Int32) : Option Int32 := match evP v l [] with
  | some (x :: _) => some x
  | _ => none
theorem EX.ev0 {q : Nat} {l : List Int32} (h : EX q l) (v : Nat → Int32) : ∃ o : Option Int32, ∀ st, evP v l st = o.map (· :: st) := by
  refine h (fun _ l => ∃ o : Option Int32, ∀ st, evP v l st = o.map (· :: st)) ⟨?_, ?_⟩
  · intro q c h h1
    by_cases z : nI 0 ≤ c
    · refine ⟨some c, fun st => ?_⟩
      show (if nI 0 ≤ c then some (c :: st) else _) = _
      rw [if_pos z]
      rfl
    · refine ⟨some (v ((-10 - c).toInt.toNat)), fun st => ?_⟩
      show (if nI 0 ≤ c then some (c :: st) else if c ≤ -10 then some (v ((-10 - c).toInt.toNat) :: st) else _) = _
      rw [if_neg z, if_pos ((at_ge h).resolve_left z)]
      rfl
  · intro m n q a b c ia ib h h1 h2
    obtain ⟨oa, ea⟩ := ia
    obtain ⟨ob, eb⟩ := ib
    match oa, ea with
    | none, ea =>
      refine ⟨none, fun st => ?_⟩
      rw [evP_app, ea]
      rfl
    | some x, ea =>
      match ob, eb with
      | none, eb =>
        refine ⟨none, fun st => ?_⟩
        rw [evP_app, ea]
        show evP v (b ++ [c]) (x :: st) = _
        rw [evP_app, eb]
        rfl
      | some y, eb =>
        refine ⟨if c = -4 ∧ y = nI 0 then none else some (jnS c x y), fun st => ?_⟩
        rw [evP_app, ea]
        show evP v (b ++ [c]) (x :: st) = _
        rw [evP_app, eb]
        show (if nI 0 ≤ c then _ else if c ≤ -10 then _ else if c = -4 ∧ y = nI 0 then none else some (jnS c x y :: st)) = _
        rw [if_neg (op_lt h).1, if_neg (op_lt h).2]
        split
        · rfl
        · rfl
theorem EX.ev {q : Nat} {l : List Int32} (h : EX q l) (v : Nat → Int32) (st : List Int32) : evP v l st = (evO v l).map (· :: st) := by
  obtain ⟨o, e⟩ := h.ev0 v
  have e2 : evO v l = o := by
    unfold evO
    rw [e]
    cases o <;> rfl
  rw [e, e2]
/-- a law: its branches (one less than the other, then), else the last one -/
abbrev mLaw : Type := List (List Int32 × List Int32 × List Int32) × List Int32
def lwB (v : Nat → Int32) : List (List Int32 × List Int32 × List Int32) → List Int32 → Int32
  | [], e => (evO v e).getD 0
  | (a, b, t) :: r, e => match evO v a, evO v b with
    | some x, some y => if x < y then (evO v t).getD 0 else lwB v r e
    | _, _ => 0
/-- the class's cells of a law, from p on; u are made -/
def LWf (g : Nat → Int32) (u : Nat) : Nat → List (List Int32 × List Int32 × List Int32) → List Int32 → Prop
  | p, [], e => LCf g p e ∧ EX 15 e ∧ g (p + e.length) = -6 ∧ p + e.length < u
  | p, (a, b, t) :: r, e => LCf g p a ∧ EX 15 a ∧ LCf g (p + a.length) b ∧ EX 15 b ∧ g (p + a.length + b.length) = -5 ∧ g (p + a.length + b.length + 1) = nI (p + a.length + b.length + 2 + t.length + 1) ∧ LCf g (p + a.length + b.length + 2) t ∧ EX 15 t ∧ g (p + a.length + b.length + 2 + t.length) = -6 ∧ LWf g u (p + a.length + b.length + 2 + t.length + 1) r e
abbrev LW (I : mI) (u : Nat) : Nat → List (List Int32 × List Int32 × List Int32) → List Int32 → Prop := LWf (I 18) u
theorem LWf.cg {f g : Nat → Int32} {u : Nat} (h : ∀ j, g j = f j) : ∀ {r : List (List Int32 × List Int32 × List Int32)} {e : List Int32} {p : Nat}, LWf f u p r e → LWf g u p r e
  | [], _, _, q => ⟨q.1.cg h, q.2.1, (h _).trans q.2.2.1, q.2.2.2⟩
  | (_, _, _) :: _, _, _, ⟨q1, q2, q3, q4, q5, q6, q7, q8, q9, q10⟩ => ⟨q1.cg h, q2, q3.cg h, q4, (h _).trans q5, (h _).trans q6, q7.cg h, q8, (h _).trans q9, LWf.cg h q10⟩
theorem LW.cg {I J : mI} {u : Nat} (h : ∀ j, J 18 j = I 18 j) {r : List (List Int32 × List Int32 × List Int32)} {e : List Int32} {p : Nat} (q : LW I u p r e) : LW J u p r e := LWf.cg h q
theorem LWf.lt {g : Nat → Int32} {u : Nat} : ∀ {r : List (List Int32 × List Int32 × List Int32)} {e : List Int32} {p : Nat}, LWf g u p r e → p < u
  | [], _, _, q => by have := q.2.2.2; omega
  | (_, _, _) :: _, _, _, ⟨_, _, _, _, _, _, _, _, _, q⟩ => by have := LWf.lt q; omega
/-- an expression and the end behind it -/
theorem s_ends (d : Nat) {S : mS} {L : mJ} (G : Gd S) {u : Nat} (hu2 : u ≤ 432) {e : List Int32} {p n : Nat} {I : mI} (hu : I 17 2 = nI u) (h1 : LC I p e) (h2 : EX 15 e) (h3 : I 18 (p + e.length) = -6) (h4 : p + e.length < u) (hn : n ≤ p) : ∃ J, evk zcod none (d + 1) zc_X7_valueOf 14 [(0, .ref 53), (2, .int (nI p)), (3, .int (nI 0)), (4, .int (nI n))] [] (S, I, L) = some (some (.int ((evO (I 54) e).getD 0)), (S, J, L)) ∧ Fi (fun a _ => a = 55) I J := by
  obtain ⟨r1, r2⟩ := s_runs d (L := L) G hu2 e p n [] I 1 hu h1 trivial (h2.dp 0 (by omega)) (Nat.zero_le _) (by omega) (by omega)
  have ev := h2.ev (I 54) []
  cases o : evO (I 54) e with
  | none =>
    rw [o] at ev
    obtain ⟨J, e1, f1⟩ := r1 ev
    exact ⟨J, e1, f1⟩
  | some x =>
    rw [o] at ev
    obtain ⟨J, e1, s1, -, f1⟩ := r2 [x] ev
    refine ⟨J, ?_, f1⟩
    rw [show nI 0 = nI ([] : List Int32).length from rfl, e1, B_X7_valueOf_14]
    have hu' : J 17 2 = nI u := (f1 17 2 (by omega)).trans hu
    have h3' : J 18 (p + e.length) = -6 := (f1 18 _ (by omega)).trans h3
    have hx : J 55 0 = x := s1.1
    simp only [gSky G, if_true, s_lawSize _ G, hu', bI_eq, s_lawCell _ G hu' hu2 (show p + e.length < 1000 by omega), if_pos h4, h3']
    rw [if_neg (nI_ge (by omega) (by omega)), if_neg (by decide +kernel), if_pos (by decide +kernel), B_X7_valueOf_90]
    have m1 : nI [x].length - nI 1 = nI 0 := by rw [show [x].length = 1 from rfl]; decide +kernel
    have m2 : nI [x].length - nI 2 < nI 0 := by rw [show [x].length = 1 from rfl]; decide +kernel
    simp only [gSky G, if_true, m1, s_onStack _ G (show 0 < 24 by omega), s_onStackM _ G m2, bI_eq, hx]
    rw [if_neg (fun q => q trivial)]
    rfl
theorem s_lawB (d : Nat) {S : mS} {L : mJ} (G : Gd S) {u : Nat} (hu2 : u ≤ 432) : ∀ (r : List (List Int32 × List Int32 × List Int32)) (e : List Int32) (p n : Nat) (I : mI), I 17 2 = nI u → LW I u p r e → n ≤ p → ∃ J, evk zcod none (d + 1) zc_X7_valueOf 14 [(0, .ref 53), (2, .int (nI p)), (3, .int (nI 0)), (4, .int (nI n))] [] (S, I, L) = some (some (.int (lwB (I 54) r e)), (S, J, L)) ∧ Fi (fun a _ => a = 55) I J
  | [], e, p, n, I, hu, h, hn => s_ends d G hu2 hu h.1 h.2.1 h.2.2.1 h.2.2.2 hn
  | (a, b, t) :: r, e, p, n, I, hu, ⟨q1, q2, q3, q4, q5, q6, q7, q8, q9, q10⟩, hn => by
    have hlt := LWf.lt q10
    obtain ⟨r1, r2⟩ := s_runs d (L := L) G hu2 a p n [] I 1 hu q1 trivial (q2.dp 0 (by omega)) (Nat.zero_le _) (by omega) (by omega)
    have ev := q2.ev (I 54) []
    cases o : evO (I 54) a with
    | none =>
      rw [o] at ev
      obtain ⟨J, e1, f1⟩ := r1 ev
      refine ⟨J, ?_, f1⟩
      rw [show lwB (I 54) ((a, b, t) :: r) e = nI 0 by unfold lwB; rw [o]; rfl]
      exact e1
    | some x =>
      rw [o] at ev
      obtain ⟨J, e1, s1, -, f1⟩ := r2 [x] ev
      have hu' : J 17 2 = nI u := (f1 17 2 (by omega)).trans hu
      have v1 : J 54 = I 54 := f1.row 54 fun j => by omega
      have c1 : ∀ j, J 18 j = I 18 j := fun j => f1 18 j (by omega)
      obtain ⟨r3, r4⟩ := s_runs d (L := L) G hu2 b (p + a.length) (n + a.length) [x] J 2 hu' (LC.cg c1 q3) s1 (q4.dp 1 (by omega)) (by show 1 ≤ 24; omega) (by omega) (by omega)
      have ev2 := q4.ev (J 54) [x]
      rw [show nI 0 = nI ([] : List Int32).length from rfl, e1]
      cases o2 : evO (I 54) b with
      | none =>
        rw [v1, o2] at ev2
        rw [v1] at r3
        obtain ⟨K, e2, f2⟩ := r3 ev2
        refine ⟨K, ?_, f1.tr f2⟩
        rw [show lwB (I 54) ((a, b, t) :: r) e = nI 0 by unfold lwB; rw [o, o2]; rfl]
        exact e2
      | some y =>
        rw [v1, o2] at ev2
        rw [v1] at r4
        obtain ⟨K, e2, s2, -, f2⟩ := r4 [y, x] ev2
        have hu3 : K 17 2 = nI u := (f2 17 2 (by omega)).trans hu'
        have v2 : K 54 = I 54 := (f2.row 54 fun j => by omega).trans v1
        have c2 : ∀ j, K 18 j = I 18 j := fun j => (f2 18 j (by omega)).trans (c1 j)
        have hy : K 55 1 = y := s2.1
        have hx : K 55 0 = x := s2.2.1
        have m1 : nI [y, x].length - nI 1 = nI 1 := by rw [show [y, x].length = 2 from rfl]; decide +kernel
        have m2 : nI [y, x].length - nI 2 = nI 0 := by rw [show [y, x].length = 2 from rfl]; decide +kernel
        have m3 : nI [y, x].length + (-2 : Int32) = nI 0 := by rw [show [y, x].length = 2 from rfl]; decide +kernel
        rw [e2, B_X7_valueOf_14]
        simp only [gSky G, if_true, s_lawSize _ G, hu3, bI_eq, s_lawCell _ G hu3 hu2 (show p + a.length + b.length < 1000 by omega), if_pos (show p + a.length + b.length < u by omega), c2, q5]
        rw [if_neg (nI_ge (by omega) (by omega)), if_neg (by decide +kernel), if_pos (by decide +kernel), B_X7_valueOf_90]
        simp only [gSky G, if_true, m1, m2, s_onStack _ G (show 1 < 24 by omega), s_onStack _ G (show 0 < 24 by omega), bI_eq, hx, hy]
        rw [if_pos (by decide +kernel), B_X7_valueOf_118, if_neg (show ¬ nI [y, x].length < nI 2 by rw [show [y, x].length = 2 from rfl]; decide +kernel), if_pos (by decide +kernel), B_X7_valueOf_137, if_neg (fun q => q rfl), m3, nI_add]
        have lw : lwB (I 54) ((a, b, t) :: r) e = if x < y then (evO (I 54) t).getD 0 else lwB (I 54) r e := by
          show (match evO (I 54) a, evO (I 54) b with | some x, some y => if x < y then (evO (I 54) t).getD 0 else lwB (I 54) r e | _, _ => 0) = _
          rw [o, o2]
        rw [lw]
        by_cases c : y ≤ x
        · rw [if_pos c, if_neg (by rw [i_lt]; rw [i_le] at c; omega), B_X7_valueOf_160]
          simp only [gSky G, if_true, bI_eq, s_lawCell _ G hu3 hu2 (show p + a.length + b.length + 1 < 1000 by omega), if_pos (show p + a.length + b.length + 1 < u by omega), c2, q6]
          rw [B_X7_valueOf_168, B_X7_valueOf_190, nI_add]
          obtain ⟨K2, e3, f3⟩ := s_lawB d (L := L) G hu2 r e (p + a.length + b.length + 2 + t.length + 1) (n + a.length + b.length + 1) K hu3 (LW.cg c2 q10) (by omega)
          rw [v2] at e3
          exact ⟨K2, e3, (f1.tr f2).tr f3⟩
        · rw [if_neg c, if_pos (by rw [i_lt]; rw [i_le] at c; omega), B_X7_valueOf_168, nI_add, B_X7_valueOf_190, nI_add]
          obtain ⟨K2, e3, f3⟩ := s_ends d (L := L) G hu2 (n := n + a.length + b.length + 1) hu3 (LC.cg c2 q7) q8 ((c2 _).trans q9) (by omega) (by omega)
          rw [v2] at e3
          exact ⟨K2, e3, (f1.tr f2).tr f3⟩
theorem s_valueOf (d : Nat) {S : mS} {I : mI} {L : mJ} (G : Gd S) {u : Nat} (hu : I 17 2 = nI u) (hu2 : u ≤ 432) {k p : Nat} (hk : k < 4) (hp : I 19 k = nI p) {r : List (List Int32 × List Int32 × List Int32)} {e : List Int32} (h : LW I u p r e) : ∃ J, evM zcod (d + 2) 75 [.ref 53, .int (nI k)] (S, I, L) = some (some (.int (lwB (I 54) r e)), (S, J, L)) ∧ Fi (fun a _ => a = 55) I J := by
  obtain ⟨J, e1, f⟩ := s_lawB d (L := L) G hu2 r e p 0 I hu h (Nat.zero_le _)
  refine ⟨J, ?_, f⟩
  rw [E_X7_valueOf, B_X7_valueOf_0]
  simp only [gSky G, if_true, s_lawStart _ G hk, hp, bI_eq]
  exact e1
