/-! statements, class side: names and numbers -/
theorem lg_0 (x y : Int64) : lg_cmp x y = nI 0 ↔ x = y := by
  unfold lg_cmp
  by_cases c : x > y
  · rw [if_pos c]
    constructor
    · intro q
      exact absurd q (by decide +kernel)
    · intro q
      rw [q] at c
      exact absurd c (Int64.lt_irrefl)
  · rw [if_neg c]
    by_cases e : x = y
    · rw [if_pos e]
      exact ⟨fun _ => e, fun _ => rfl⟩
    · rw [if_neg e]
      exact ⟨fun q => absurd q (by decide +kernel), fun q => absurd q e⟩
/-- the first of the faults that count late: which (0: none), at which token -/
def lt1 (l : Nat × Nat) (f t : Nat) : Nat × Nat := if l.1 = 0 then (f, t) else l
def LT (I : mI) (l : Nat × Nat) : Prop := I 31 8 = nI l.1 ∧ I 31 9 = (if l.1 = 0 then -1 else I 35 l.2) ∧ (l.1 = 0 ∨ l.1 = 3 ∨ l.1 = 5)
def twB (N : Nat → Int64) (nm : List Nat) (t : Nat) : Bool := nm.any fun i => decide (N i = N t)
def stF (a j : Nat) : Prop := a = 31 ∧ 3 ≤ j ∧ j ≤ 9 ∨ 20 ≤ a ∧ a ≤ 30
def nuF (a j : Nat) : Prop := a = 31 ∧ 4 ≤ j ∧ j ≤ 9
def naF (a j : Nat) : Prop := a = 31 ∧ 3 ≤ j ∧ j ≤ 9
theorem tkA_nu {a j : Nat} (h : tkA a j) : nuF a j := by unfold tkA at h; unfold nuF; omega
theorem nuF_st {a j : Nat} (h : nuF a j) : stF a j := by unfold nuF at h; unfold stF; omega
theorem naF_st {a j : Nat} (h : naF a j) : stF a j := by unfold naF at h; unfold stF; omega
theorem rdA_st {a j : Nat} (h : rdA a j) : stF a j := by unfold rdA at h; unfold stF; omega
theorem adA_st {a j : Nat} (h : adA a j) : stF a j := by unfold adA at h; unfold stF; omega
theorem TKV.st {I J : mI} {L : mJ} {K V : Nat → Int32} (h : TKV I L K V) (f : Fi stF I J) : TKV J L K V := ⟨(f.row 34 fun j => by unfold stF; omega).trans h.1, h.2⟩
theorem TKV.lg {I : mI} {L L' : mJ} {K V : Nat → Int32} (h : TKV I L K V) (e : ∀ j, L' 36 j = L 36 j) : TKV I L' K V := ⟨h.1, by
  rw [← h.2.1]
  funext t
  show (L' 36 t).toInt32 = (L 36 t).toInt32
  rw [e], h.2.2⟩
theorem LT.cg {I J : mI} {l : Nat × Nat} (h : LT I l) (e8 : J 31 8 = I 31 8) (e9 : J 31 9 = I 31 9) (e : ∀ t, J 35 t = I 35 t) : LT J l := ⟨e8.trans h.1, by rw [e9, h.2.1, e], h.2.2⟩
theorem s_valueAny (d : Nat) {S : mS} {I : mI} {L : mJ} (G : Gd S) (h : I 32 4 = nI 401) (x : Int32) : ∃ y, evM zcod (d + 1) 39 [.ref 32, .int x] (S, I, L) = some (some (.long y), (S, I, L)) := by
  by_cases c : 0 ≤ x.toInt ∧ x.toInt < 401
  · obtain ⟨p, hp, rfl⟩ := i_of2 (n := 401) c.1 c.2
    exact ⟨_, s_valueAt d G h (by omega)⟩
  · rw [E_X10_valueAt]
    simp only [B_X10_valueAt_0, B_X10_valueAt_21, B_X10_valueAt_22, gRd G, if_true, true_and, h]
    by_cases c1 : x < nI 0
    · rw [if_pos c1]
      exact ⟨_, rfl⟩
    · rw [if_neg c1, if_pos (by rw [i_le, t_nI (by omega)]; rw [i_lt, t_nI (by omega)] at c1; omega)]
      exact ⟨_, rfl⟩
theorem s_placeAny (d : Nat) {S : mS} {I : mI} {L : mJ} (G : Gd S) (h : I 32 4 = nI 401) (x : Int32) : ∃ y, evM zcod (d + 1) 38 [.ref 32, .int x] (S, I, L) = some (some (.int y), (S, I, L)) := by
  by_cases c : 0 ≤ x.toInt ∧ x.toInt < 401
  · obtain ⟨p, hp, rfl⟩ := i_of2 (n := 401) c.1 c.2
    exact ⟨_, s_placeAt d G h (by omega)⟩
  · rw [E_X10_placeAt]
    simp only [B_X10_placeAt_0, B_X10_placeAt_21, B_X10_placeAt_25, gRd G, if_true, true_and, h]
    by_cases c1 : x < nI 0
    · rw [if_pos c1]
      exact ⟨_, rfl⟩
    · rw [if_neg c1, if_pos (by rw [i_le, t_nI (by omega)]; rw [i_lt, t_nI (by omega)] at c1; omega)]
      exact ⟨_, rfl⟩
theorem s_failLate (d : Nat) {S : mS} {I : mI} {L : mJ} (G : Gd S) {l : Nat × Nat} (h : LT I l) {f t : Nat} (hf : f = 3 ∨ f = 5) {p : Int32} (hp : p = I 35 t) : ∃ J, evM zcod (d + 1) 67 [.ref 31, .int (nI f), .int p] (S, I, L) = some (none, (S, J, L)) ∧ Fi (fun a j => a = 31 ∧ (j = 8 ∨ j = 9)) I J ∧ LT J (lt1 l f t) := by
  rw [E_X6_failLate]
  by_cases c : l.1 = 0
  · refine ⟨uI (uI I 31 8 (nI f)) 31 9 p, ?_, Fi.u (Fi.u Fi.rf ⟨rfl, Or.inl rfl⟩) ⟨rfl, Or.inr rfl⟩, ?_⟩
    · have e : I 31 8 = nI 0 := h.1.trans (by rw [c])
      simp only [B_X6_failLate_0, B_X6_failLate_17, gRd G, if_true, e, not_true, if_false]
    · unfold lt1
      rw [if_pos c]
      refine ⟨(uI_ix (by omega)).trans (uI_same _ _ _ _), ?_, Or.inr hf⟩
      rw [if_neg (show ¬ f = 0 by omega), uI_same, hp, uI_off (by omega), uI_off (by omega)]
  · refine ⟨I, ?_, Fi.rf, ?_⟩
    · have e : ¬ I 31 8 = nI 0 := by
        rw [h.1]
        rcases h.2.2 with z | z | z
        · exact absurd z c
        · rw [z]; decide +kernel
        · rw [z]; decide +kernel
      simp only [B_X6_failLate_0, B_X6_failLate_17, gRd G, if_true, e, not_false_iff]
    · unfold lt1
      rw [if_neg c]
      exact h
theorem s_takeNumber (d : Nat) {S : mS} {I : mI} {L : mJ} {K V : Nat → Int32} (G : Gd S) (k : TKV I L K V) (h32 : I 32 4 = nI 401) {s : mSt} (h : CSt I s) (sg lo hi : Int32) {l : Nat × Nat} (hl : s.2 = 0 → LT I l) : ∃ y J, evM zcod (d + 4) 65 [.ref 31, .int sg, .int lo, .int hi] (S, I, L) = some (some (.int y), (S, J, L)) ∧ Fi nuF I J ∧ CSt J (tk K (nI 3) s) ∧ ((tk K (nI 3) s).2 = 0 → y = sg * V s.1 ∧ LT J (if lo ≤ sg * V s.1 ∧ sg * V s.1 ≤ hi then l else lt1 l 5 s.1)) := by
  by_cases q : s.2 = 0
  · have hr := h.rd q
    have va := s_valueAt (d + 2) (L := L) G h32 hr.1
    have pa := s_placeAt (d + 2) (L := L) G h32 hr.1
    have vt : (L 36 s.1).toInt32 = V s.1 := congrFun k.2.1 s.1
    have kt : I 34 s.1 = K s.1 := congrFun k.1 s.1
    have es : s = (s.1, 0) := by rw [← q]
    by_cases c : (tk K (nI 3) s).2 = 0
    · obtain ⟨_, c1, c2, c3⟩ := tk_ok c
      have e := s_take_ok (d + 1) (L := L) G hr (kt.trans c1) c2
      let J1 := uI (uI I 31 4 (nI (s.1 + 1))) 31 5 (I 34 (s.1 + 1))
      have f1 : Fi tkA I J1 := Fi.u (Fi.u Fi.rf ⟨rfl, by omega, by omega⟩) ⟨rfl, by omega, by omega⟩
      have m1 : CSt J1 (tk K (nI 3) s) := by rw [c3]; exact Or.inl ⟨rfl, hr.take c2⟩
      have l1 : LT J1 l := (hl q).cg (f1 _ _ (by unfold tkA; omega)) (f1 _ _ (by unfold tkA; omega)) (fun t => f1 _ _ (by unfold tkA; omega))
      rw [E_X6_takeNumber, B_X6_takeNumber_0]
      simp only [gRd G, if_true, hr.2.1, va, bL_eq, pa, bI_eq, e, z10, if_false, vt, s_isWithin]
      by_cases w : lo ≤ sg * V s.1 ∧ sg * V s.1 ≤ hi
      · refine ⟨sg * V s.1, J1, ?_, f1.up fun _ _ => tkA_nu, m1, fun _ => ⟨rfl, by rw [if_pos w]; exact l1⟩⟩
        simp only [w, and_self, if_true, z10, not_false_iff, B_X6_takeNumber_54]
        rfl
      · obtain ⟨J, e2, f2, l2⟩ := s_failLate (d + 2) (L := L) G l1 (Or.inr rfl) (f := 5) (t := s.1) (p := I 35 s.1) (f1 _ _ (by unfold tkA; omega)).symm
        refine ⟨sg * V s.1, J, ?_, (f1.up fun _ _ => tkA_nu).tr (f2.up fun _ _ z => ⟨z.1, by omega, by omega⟩), ?_, fun _ => ⟨rfl, by rw [if_neg w]; exact l2⟩⟩
        · rw [if_neg w, if_neg (fun z => z rfl), B_X6_takeNumber_47]
          simp only [gRd G, if_true]
          rw [show uI (uI I 31 4 (nI (s.1 + 1))) 31 5 (I 34 (s.1 + 1)) = J1 from rfl, e2]
          simp only [bV_eq, if_true, B_X6_takeNumber_54]
        · have rd := m1.rd c
          refine Or.inl ⟨c, rd.1, (f2 _ _ (by omega)).trans rd.2.1, ?_, (f2 _ _ (by omega)).trans rd.2.2.2.1, (f2 _ _ (by omega)).trans rd.2.2.2.2⟩
          rw [f2 31 5 (by omega), f2 34 _ (by omega)]
          exact rd.2.2.1
    · obtain ⟨y, J, e, f, m⟩ := s_takeL d (L := L) G k h (nI 3)
      have y0 : y = nI 0 := by
        have hne : ¬ (K s.1 = nI 3 ∧ s.1 < 400) := fun z => by
          apply c
          unfold tk
          rw [if_pos q, if_pos z.1, if_pos z.2]
        by_cases c1 : K s.1 = nI 3
        · obtain ⟨J', e', _⟩ := s_take_room d (L := L) G hr (kt.trans c1) (fun z => hne ⟨c1, z⟩)
          rw [e'] at e
          cases e
          rfl
        · obtain ⟨J', e', _⟩ := s_take_syn d (L := L) G hr (x := nI 3) (by rw [kt]; exact c1)
          rw [e'] at e
          cases e
          rfl
      subst y0
      refine ⟨sg * V s.1, J, ?_, f.up fun _ _ => tkA_nu, m, fun z => absurd z c⟩
      rw [E_X6_takeNumber, B_X6_takeNumber_0]
      simp only [gRd G, if_true, hr.2.1, va, bL_eq, pa, bI_eq, e, vt, B_X6_takeNumber_54]
  · have hf := h.ft q
    obtain ⟨y, va⟩ := s_valueAny (d + 2) (L := L) G h32 (I 31 4)
    obtain ⟨p, pa⟩ := s_placeAny (d + 2) (L := L) G h32 (I 31 4)
    have e := s_take_bad (d + 2) (L := L) G hf.n0 (nI 3)
    have tke : tk K (nI 3) s = s := by
      unfold tk
      rw [if_neg q]
    refine ⟨sg * y.toInt32, I, ?_, Fi.rf, by rw [tke]; exact h, fun z => absurd z (by rw [tke]; exact q)⟩
    rw [E_X6_takeNumber, B_X6_takeNumber_0]
    simp only [gRd G, if_true, va, bL_eq, pa, bI_eq, e, B_X6_takeNumber_54]
/-- the names told: their tokens -/
def NMc (I : mI) (L : mJ) (nm : List Nat) : Prop := I 31 3 = nI nm.length ∧ ∀ i (h : i < nm.length), L 38 i = L 36 nm[i]
theorem s_takeName (d : Nat) {S : mS} {I : mI} {L : mJ} {K V : Nat → Int32} (G : Gd S) (k : TKV I L K V) (h32 : I 32 4 = nI 401) {s : mSt} (h : CSt I s) {l : Nat × Nat} {nm : List Nat} (hl : s.2 = 0 → LT I l ∧ NMc I L nm ∧ nm.length ≤ 16) : ∃ J L', evM zcod (d + 4) 64 [.ref 31] (S, I, L) = some (none, (S, J, L')) ∧ Fi naF I J ∧ (∀ a j, ¬ a = 38 → L' a j = L a j) ∧ CSt J (tk K (nI 2) s) ∧ ((tk K (nI 2) s).2 = 0 → LT J (if twB (L 36) nm s.1 = true then lt1 l 3 s.1 else l) ∧ NMc J L' (nm ++ [s.1])) := by
  by_cases q : s.2 = 0
  · have hr := h.rd q
    obtain ⟨hl1, hl2, hl3⟩ := hl q
    have va := s_valueAt (d + 2) (L := L) G h32 hr.1
    have pa := s_placeAt (d + 2) (L := L) G h32 hr.1
    have kt : I 34 s.1 = K s.1 := congrFun k.1 s.1
    by_cases c : (tk K (nI 2) s).2 = 0
    · obtain ⟨_, c1, c2, c3⟩ := tk_ok c
      have e := s_take_ok (d + 1) (L := L) G hr (kt.trans c1) c2
      let J1 := uI (uI I 31 4 (nI (s.1 + 1))) 31 5 (I 34 (s.1 + 1))
      have f1 : Fi tkA I J1 := Fi.u (Fi.u Fi.rf ⟨rfl, by omega, by omega⟩) ⟨rfl, by omega, by omega⟩
      have m1 : RD J1 (s.1 + 1) := hr.take c2
      have l1 : LT J1 l := hl1.cg (f1 _ _ (by unfold tkA; omega)) (f1 _ _ (by unfold tkA; omega)) (fun t => f1 _ _ (by unfold tkA; omega))
      have key : ∀ n i (J : mI) (l' : Nat × Nat), i + n = nm.length → Fi (fun a j => a = 31 ∧ (j = 8 ∨ j = 9)) J1 J → LT J l' → ∃ J', evk zcod none (d + 3) zc_X6_takeName 36 [(0, .ref 31), (1, .long (L 36 s.1)), (3, .int (I 35 s.1)), (4, .int (nI i))] [] (S, J, L) = evk zcod none (d + 3) zc_X6_takeName 79 [(0, .ref 31), (1, .long (L 36 s.1))] [] (S, J', L) ∧ Fi (fun a j => a = 31 ∧ (j = 8 ∨ j = 9)) J1 J' ∧ LT J' (if twB (L 36) (nm.drop i) s.1 = true then lt1 l' 3 s.1 else l') := by
        intro n
        induction n with
        | zero =>
          intro i J l' hi f hl'
          have e3 : J 31 3 = nI nm.length := (f _ _ (by omega)).trans ((f1 _ _ (by unfold tkA; omega)).trans hl2.1)
          refine ⟨J, ?_, f, ?_⟩
          · rw [B_X6_takeName_36]
            simp only [gRd G, if_true, e3]
            rw [if_pos (nI_le (by omega) (by omega))]
          · rw [List.drop_eq_nil_of_le (by omega)]
            exact hl'
        | succ n ih =>
          intro i J l' hi f hl'
          have hin : i < nm.length := by omega
          have e3 : J 31 3 = nI nm.length := (f _ _ (by omega)).trans ((f1 _ _ (by unfold tkA; omega)).trans hl2.1)
          have dr : nm.drop i = nm[i] :: nm.drop (i + 1) := List.drop_eq_getElem_cons hin
          have n1 : ¬ nI nm.length ≤ nI i := nI_ge hin (by omega)
          have n2 : ¬ nI 17 ≤ nI i := nI_ge (by omega) (by omega)
          have xi : zin (nI i) 17 = True := ixT (by omega) (by omega)
          have xii : zix (nI i) = i := ixI (by omega)
          have c36 := hl2.2 i hin
          have tw : twB (L 36) (nm.drop i) s.1 = (decide (L 36 nm[i] = L 36 s.1) || twB (L 36) (nm.drop (i + 1)) s.1) := by
            rw [dr]
            rfl
          rw [tw, B_X6_takeName_36]
          simp only [gRd G, if_true, true_and, e3, n1, n2, if_false, xi, xii, c36, lg_0]
          by_cases z : L 36 nm[i] = L 36 s.1
          · rw [if_neg (fun w => w z)]
            have p35 : J 35 s.1 = I 35 s.1 := (f _ _ (by omega)).trans (f1 _ _ (by unfold tkA; omega))
            obtain ⟨J2, e2, f2, l2⟩ := s_failLate (d + 2) (L := L) G hl' (Or.inl rfl) (f := 3) (t := s.1) (p := I 35 s.1) p35.symm
            obtain ⟨J3, e3', f3, l3⟩ := ih (i + 1) J2 (lt1 l' 3 s.1) (by omega) (f.tr f2) l2
            refine ⟨J3, ?_, f3, ?_⟩
            · simp only [e2, bV_eq, if_true]
              rw [B_X6_takeName_73, nI_add]
              exact e3'
            · have d1 : decide (L 36 nm[i] = L 36 s.1) = true := decide_eq_true z
              rw [d1, Bool.true_or, if_pos rfl]
              have idem : lt1 (lt1 l' 3 s.1) 3 s.1 = lt1 l' 3 s.1 := by
                unfold lt1
                by_cases w : l'.1 = 0
                · rw [if_pos w, if_neg (show ¬ (3, s.1).1 = 0 by show ¬ 3 = 0; omega)]
                · rw [if_neg w, if_neg w]
              rw [idem, ite_self] at l3
              exact l3
          · rw [if_pos z, B_X6_takeName_73, nI_add]
            obtain ⟨J3, e3', f3, l3⟩ := ih (i + 1) J l' (by omega) f hl'
            refine ⟨J3, e3', f3, ?_⟩
            have d1 : decide (L 36 nm[i] = L 36 s.1) = false := decide_eq_false z
            rw [d1, Bool.false_or]
            exact l3
      obtain ⟨J2, e2, f2, l2⟩ := key nm.length 0 J1 l (by omega) Fi.rf l1
      have e3 : J2 31 3 = nI nm.length := (f2 _ _ (by omega)).trans ((f1 _ _ (by unfold tkA; omega)).trans hl2.1)
      have n2 : ¬ nI 17 ≤ nI nm.length := nI_ge (by omega) (by omega)
      have xi : zin (nI nm.length) 17 = True := ixT (by omega) (by omega)
      have xii : zix (nI nm.length) = nm.length := ixI (by omega)
      refine ⟨uI J2 31 3 (nI (nm.length + 1)), uL L 38 nm.length (L 36 s.1), ?_, ((f1.up fun _ _ z => ⟨z.1, by have := z.2; omega, by have := z.2; omega⟩).tr (f2.up fun _ _ z => ⟨z.1, by omega, by omega⟩)).tr (Fi.u Fi.rf ⟨rfl, by omega, by omega⟩), fun a j ha => uL_off ha, ?_, fun _ => ⟨?_, ?_, ?_⟩⟩
      · rw [E_X6_takeName, B_X6_takeName_0]
        simp only [gRd G, if_true, hr.2.1, va, bL_eq, pa, bI_eq, e, z10, not_false_iff]
        rw [B_X6_takeName_33]
        refine e2.trans ?_
        rw [B_X6_takeName_79]
        simp only [gRd G, if_true, true_and, e3, n2, if_false, xi, xii, nI_add]
        rw [B_X6_takeName_111]
      · rw [c3]
        refine Or.inl ⟨rfl, m1.1, ?_, ?_, ?_, ?_⟩
        · rw [uI_ix (by omega), f2 _ _ (by omega)]
          exact m1.2.1
        · rw [uI_ix (by omega), uI_off (by omega), f2 31 5 (by omega), f2 34 _ (by omega)]
          exact m1.2.2.1
        · rw [uI_ix (by omega), f2 _ _ (by omega)]
          exact m1.2.2.2.1
        · rw [uI_off (by omega), f2 _ _ (by omega)]
          exact m1.2.2.2.2
      · rw [List.drop_zero] at l2
        exact l2.cg (uI_ix (by omega)) (uI_ix (by omega)) (fun t => uI_off (by omega))
      · rw [uI_same, List.length_append]
        rfl
      · intro i hi
        rw [List.length_append] at hi
        have hi' : i < nm.length + 1 := hi
        rw [uL_off (show (36 : Nat) ≠ 38 by omega)]
        by_cases z : i = nm.length
        · subst z
          rw [uL_at, if_pos ⟨rfl, rfl⟩, List.getElem_append_right (Nat.le_refl _)]
          simp
        · rw [uL_at, if_neg (fun w => z w.2), List.getElem_append_left (show i < nm.length by omega)]
          exact hl2.2 i (by omega)
    · obtain ⟨y, J, e, f, m⟩ := s_takeL d (L := L) G k h (nI 2)
      have y0 : y = nI 0 := by
        have hne : ¬ (K s.1 = nI 2 ∧ s.1 < 400) := fun z => by
          apply c
          unfold tk
          rw [if_pos q, if_pos z.1, if_pos z.2]
        by_cases c1 : K s.1 = nI 2
        · obtain ⟨J', e', _⟩ := s_take_room d (L := L) G hr (kt.trans c1) (fun z => hne ⟨c1, z⟩)
          rw [e'] at e
          cases e
          rfl
        · obtain ⟨J', e', _⟩ := s_take_syn d (L := L) G hr (x := nI 2) (by rw [kt]; exact c1)
          rw [e'] at e
          cases e
          rfl
      subst y0
      refine ⟨J, L, ?_, f.up fun _ _ z => ⟨z.1, by have := z.2; omega, by have := z.2; omega⟩, fun _ _ _ => rfl, m, fun z => absurd z c⟩
      rw [E_X6_takeName, B_X6_takeName_0]
      simp only [gRd G, if_true, hr.2.1, va, bL_eq, pa, bI_eq, e, not_true, if_false]
  · have hf := h.ft q
    obtain ⟨y, va⟩ := s_valueAny (d + 2) (L := L) G h32 (I 31 4)
    obtain ⟨p, pa⟩ := s_placeAny (d + 2) (L := L) G h32 (I 31 4)
    have e := s_take_bad (d + 2) (L := L) G hf.n0 (nI 2)
    have tke : tk K (nI 2) s = s := by
      unfold tk
      rw [if_neg q]
    refine ⟨I, L, ?_, Fi.rf, fun _ _ _ => rfl, by rw [tke]; exact h, fun z => absurd z (by rw [tke]; exact q)⟩
    rw [E_X6_takeName, B_X6_takeName_0]
    simp only [gRd G, if_true, va, bL_eq, pa, bI_eq, e, not_true, if_false]
/-- the first token of a thing: no more than most of a sort -/
def fst1 (K : Nat → Int32) (n m t : Nat) : mSt := if n < m then tk K (K t) (t, 0) else (t, 2)
theorem s_takeFirst (d : Nat) {S : mS} {I : mI} {L : mJ} {K V : Nat → Int32} (G : Gd S) (k : TKV I L K V) {t : Nat} (h : RD I t) {a c m w n : Nat} (hT : Tg S I a c m w n) : ∃ J, evM zcod (d + 4) 63 [.ref 31, .ref a] (S, I, L) = some (none, (S, J, L)) ∧ Fi tkA I J ∧ CSt J (fst1 K n m t) := by
  have k31 := rd138 k h
  unfold fst1
  by_cases q : n < m
  · obtain ⟨y, J, e, f, s⟩ := s_takeL d (L := L) G k (s := (t, 0)) (Or.inl ⟨rfl, h⟩) (K t)
    rw [if_pos q]
    refine ⟨J, ?_, f, s⟩
    rw [E_X6_takeFirst, B_X6_takeFirst_0]
    simp only [hT.1, if_true, s_isFull (d + 2) hT, q, bI_eq]
    rw [B_X6_takeFirst_12]
    simp only [gRd G, if_true, k31, e, bI_eq]
  · obtain ⟨J, e, f, s⟩ := s_fail (d + 1) (L := L) G h (Or.inr rfl)
    rw [if_neg q]
    refine ⟨J, ?_, f.up fun _ _ z => ⟨z.1, by omega, by omega⟩, Or.inr s⟩
    rw [E_X6_takeFirst, B_X6_takeFirst_0]
    simp only [hT.1, if_true, s_isFull (d + 2) hT, q, if_false, bI_eq, z10, gRd G, e, bV_eq]
    rw [B_X6_takeFirst_12]
    simp only [gRd G, if_true, s_take_bad (d + 2) (L := L) G s.n0, bI_eq]
