/-! a text that is good: the plan, how it begins -/
def P0 (T : mTx) : mP := (T.1, tSt T, fun k v => lwB v (tLw T k).1 (tLw T k).2)
def r0 (T : mTx) : mW := fun j => if j < 21 then (if j < tLo T then tSt T (60 + j) else nI 0) else if j < 40 then -2 else if j < 45 then (if j < 40 + tSi T then tSt T (40 + j) else nI 0) else if j < 50 then nI 0 else if j < 50 + tHo T then tSt T (20 + j) else nI 0
theorem r0_x (T : mTx) {i : Nat} (h : i < tLo T) (h7 : i < 21) : r0 T i = tSt T (60 + i) := by
  unfold r0
  rw [if_pos h7, if_pos h]
theorem r0_0 (T : mTx) (h : tLo T ≤ 7) {j : Nat} (h1 : 7 ≤ j) (h2 : j < 21) : r0 T j = nI 0 := by
  unfold r0
  rw [if_pos h2, if_neg (by omega)]
theorem r0_2 (T : mTx) {j : Nat} (h1 : 21 ≤ j) (h2 : j < 40) : r0 T j = -2 := by
  unfold r0
  rw [if_neg (by omega), if_pos h2]
theorem r0_p (T : mTx) {k : Nat} (h : k < tSi T) (h5 : k < 5) : r0 T (40 + k) = tSt T (80 + k) := by
  unfold r0
  rw [if_neg (by omega), if_neg (by omega), if_pos (by omega), if_pos (by omega), show 40 + (40 + k) = 80 + k by omega]
theorem r0_4 (T : mTx) {j : Nat} (h1 : 45 ≤ j) (h2 : j < 50) : r0 T j = nI 0 := by
  unfold r0
  rw [if_neg (by omega), if_neg (by omega), if_neg (by omega), if_pos h2]
theorem r0_h (T : mTx) {k : Nat} (h : k < tHo T) : r0 T (50 + k) = tSt T (70 + k) := by
  unfold r0
  rw [if_neg (by omega), if_neg (by omega), if_neg (by omega), if_neg (by omega), if_pos (by omega), show 20 + (50 + k) = 70 + k by omega]
theorem r0_e (T : mTx) (h : tHo T ≤ 5) {j : Nat} (h1 : 55 ≤ j) : r0 T j = nI 0 := by
  unfold r0
  rw [if_neg (by omega), if_neg (by omega), if_neg (by omega), if_neg (by omega), if_neg (by omega)]
theorem m2_n : ∀ a, a < 40 → ¬ (-2 : Int32) = nI a := by decide +kernel
theorem bs_0 {f : Nat → Bool} : ∀ {n : Nat}, (∀ a, a < n → f a = false) → bs f n = 0
  | 0, _ => rfl
  | n + 1, h => by
    unfold bs
    rw [bs_0 (n := n) (fun a ha => h a (by omega)), h n (by omega)]
    rfl
theorem P0_ok {K : Nat → Int32} {t : Nat} {T : mTx} (h : TOK K t T) (h0 : (tLt T).1 = 0) : PV (P0 T) ∧ RV (P0 T) (r0 T) := by
  obtain ⟨q1, q2, q3, _, _, _, q7⟩ := h
  obtain ⟨v1, v2, v3⟩ := q7 h0
  refine ⟨⟨q1, q2, q3, fun h hh => ?_⟩, fun a ha => ?_, fun k hk => ?_, fun h hh => ?_⟩
  · obtain ⟨_, ⟨a, b⟩, ⟨c, d⟩⟩ := v3 h hh
    exact ⟨a, b, c, d⟩
  · have ha' : a < tLo T := ha
    have x := v1 a ha'
    have e7 := r0_0 T q1 (j := 7 + a) (by omega) (by omega)
    refine ⟨by rw [r0_x T ha' (by omega)]; exact x, Or.inl e7, fun z => ?_, fun _ => ⟨r0_2 T (by omega) (by omega), r0_0 T q1 (by omega) (by omega)⟩, Or.inl (r0_2 T (by omega) (by omega)), fun _ => r0_2 T (by omega) (by omega)⟩
    rw [e7] at z
    exact absurd z (by decide +kernel)
  · have hk' : k < tSi T := hk
    exact ⟨by rw [r0_p T hk' (by omega)]; exact v2 k hk', Or.inl (r0_2 T (by omega) (by omega))⟩
  · have hh' : h < tHo T := hh
    rw [r0_h T hh']
    exact (v3 h hh').1
theorem cau0 {T : mTx} (q1 : tLo T ≤ 7) {h : Nat} (hh : h < 40) : cauB (P0 T) (r0 T) h = 0 := bs_0 fun a ha => by
  have ha' : a < tLo T := ha
  exact decide_eq_false (by rw [r0_2 T (by omega) (by omega)]; exact m2_n h hh)
theorem DGood.cs {J : mI} {T : mTx} (h : DGood J T) : CS J 21 (P0 T) (r0 T) := by
  obtain ⟨⟨l1, l2, l3, l4⟩, ⟨s1, s2, s3, s4⟩, ⟨h1, h2, h3, h4⟩, _, ⟨b1, b2, b3⟩, _, K, t, q1, q2, q3, _⟩ := h
  refine ⟨⟨l1, l2, l3⟩, ⟨s1, s2, s3⟩, ⟨h1, h2, h3⟩, fun i hi => ?_, fun k hk => ?_, fun x hx => ?_, b1.trans (r0_e T q3 (by omega)).symm, b2.trans (r0_e T q3 (by omega)).symm, b3.trans (r0_e T q3 (by omega)).symm⟩
  · have hi' : i < tLo T := hi
    obtain ⟨a1, a2, a3, a4, a5, a6, a7⟩ := l4 i hi'
    exact ⟨a1.trans (r0_x T hi' (by omega)).symm, a2, a3, a4.trans (r0_0 T q1 (by omega) (by omega)).symm, a5.trans (r0_0 T q1 (by omega) (by omega)).symm, a6.trans (r0_2 T (by omega) (by omega)).symm, a7.trans (r0_2 T (by omega) (by omega)).symm⟩
  · have hk' : k < tSi T := hk
    obtain ⟨a1, a2, a3, a4⟩ := s4 k hk'
    exact ⟨a1, a2.trans (r0_2 T (by omega) (by omega)).symm, a3.trans (r0_4 T (by omega) (by omega)).symm, a4.trans (r0_p T hk' (by omega)).symm⟩
  · have hx' : x < tHo T := hx
    obtain ⟨a1, a2, a3, a4⟩ := h4 x hx'
    exact ⟨a1.trans (r0_h T hx').symm, a2, a3, a4.trans (by rw [cau0 q1 (by omega)])⟩
/-! the laws as they are kept -/
theorem EX.nine {q : Nat} {l : List Int32} (h : EX q l) (v : Nat → Int32) : evO (n9 v) l = evO v l := by
  have key : ∀ st, evP (n9 v) l st = evP v l st := by
    refine h (fun _ l => ∀ st, evP (n9 v) l st = evP v l st) ⟨?_, ?_⟩
    · intro q c hc _ st
      show (if nI 0 ≤ c then some (c :: st) else if c ≤ -10 then some (n9 v ((-10 - c).toInt.toNat) :: st) else _) = (if nI 0 ≤ c then some (c :: st) else if c ≤ -10 then some (v ((-10 - c).toInt.toNat) :: st) else _)
      by_cases z : nI 0 ≤ c
      · rw [if_pos z, if_pos z]
      · obtain ⟨k, hk, e⟩ := hc.resolve_left z
        have le := (at_ge hc).resolve_left z
        rw [if_neg z, if_neg z, if_pos le, if_pos le, e, var_of k hk, t_nI (by omega)]
        show some ((if ((k : Int).toNat) < 9 then v ((k : Int).toNat) else 0) :: st) = _
        rw [if_pos (by omega)]
    · intro m n q a b c ia ib hc _ _ st
      have e : ∀ w : Nat → Int32, evP w (a ++ (b ++ [c])) st = ((evP w a st).bind (evP w b)).bind (evP w [c]) := by
        intro w
        rw [evP_app, Option.bind_assoc]
        congr 1
        funext x
        exact evP_app w b [c] x
      rw [e, e, ia st]
      have : evP (n9 v) b = evP v b := funext ib
      have tl : evP (n9 v) [c] = evP v [c] := by
        funext x
        match x with
        | [] =>
          show (if nI 0 ≤ c then _ else if c ≤ -10 then _ else _) = (if nI 0 ≤ c then _ else if c ≤ -10 then _ else _)
          rw [if_neg (op_lt hc).1, if_neg (op_lt hc).2, if_neg (op_lt hc).1, if_neg (op_lt hc).2]
        | [_] =>
          show (if nI 0 ≤ c then _ else if c ≤ -10 then _ else _) = (if nI 0 ≤ c then _ else if c ≤ -10 then _ else _)
          rw [if_neg (op_lt hc).1, if_neg (op_lt hc).2, if_neg (op_lt hc).1, if_neg (op_lt hc).2]
        | y :: z :: st' =>
          show (if nI 0 ≤ c then _ else if c ≤ -10 then _ else if c = -4 ∧ y = nI 0 then none else some (jnS c z y :: st')) = (if nI 0 ≤ c then _ else if c ≤ -10 then _ else if c = -4 ∧ y = nI 0 then none else some (jnS c z y :: st'))
          rw [if_neg (op_lt hc).1, if_neg (op_lt hc).2, if_neg (op_lt hc).1, if_neg (op_lt hc).2]
      rw [this, tl]
  unfold evO
  rw [key]
theorem LWf.nine {g : Nat → Int32} {u : Nat} (v : Nat → Int32) : ∀ {r : List mBr} {e : List Int32} {p : Nat}, LWf g u p r e → lwB (n9 v) r e = lwB v r e
  | [], e, p, h => by
    show (evO (n9 v) e).getD 0 = (evO v e).getD 0
    rw [h.2.1.nine]
  | (a, b, t) :: r, e, p, ⟨_, q2, _, q4, _, _, _, q8, _, q10⟩ => by
    rw [lwB_c, lwB_c, q2.nine, q4.nine, q8.nine, LWf.nine v q10]
def PLC (I : mI) (P : mP) : Prop := ∃ u, u ≤ 432 ∧ I 17 2 = nI u ∧ ∀ k, k < 4 → ∃ p r e, I 19 k = nI p ∧ LWf (I 18) u p r e ∧ ∀ v, lawf P k v = lwB v r e
theorem PLC.law {S : mS} (G : Gd S) {I : mI} {P : mP} (h : PLC I P) : LawC S P I := by
  obtain ⟨u, u1, u2, u3⟩ := h
  intro k hk J d L e1 e2 e3
  obtain ⟨p, r, e, p1, p2, p3⟩ := u3 k hk
  obtain ⟨J', w, f⟩ := s_valueOf d (S := S) (I := J) (L := L) G (by rw [e1]; exact u2) u1 hk (by rw [e3]; exact p1) (r := r) (e := e) (p2.cg fun j => by rw [e2])
  refine ⟨J', ?_, f⟩
  rw [p3, p2.nine]
  exact w
theorem PLC.cg {I J : mI} {P : mP} (h : PLC I P) (e1 : J 17 2 = I 17 2) (e2 : ∀ j, J 18 j = I 18 j) (e3 : ∀ j, J 19 j = I 19 j) : PLC J P := by
  obtain ⟨u, u1, u2, u3⟩ := h
  refine ⟨u, u1, e1.trans u2, fun k hk => ?_⟩
  obtain ⟨p, r, e, p1, p2, p3⟩ := u3 k hk
  exact ⟨p, r, e, (e3 _).trans p1, p2.cg e2, p3⟩
/-- the class's state lives through a read that has a fault -/
theorem ZC.sw {S S' : mS} {I J : mI} {P : mP} {r : mW} {H : Nat → mW} {dp : Nat} {Q : Nat → mW} {hd : Nat → Bool} {T : Nat → Nat → Int32} {nt : Nat} (h : ZC S I P r H dp Q hd T nt) (G' : Gd S') (pl : PLC I P) (f : Fi (fun a _ => a < 9 ∨ 20 ≤ a ∧ a ≤ 36) I J) : ZC S' J P r H dp Q hd T nt := by
  obtain ⟨h1, h2, ⟨c1, c2, c3, c4, c5, c6⟩, h4, h5, h6, h7⟩ := h
  have g := gTold G'
  have t := h7.1
  refine ⟨h1, h2, ⟨c1.congI fun x j p q => f x j (by omega), (pl.cg (f _ _ (by omega)) (fun j => f _ _ (by omega)) (fun j => f _ _ (by omega))).law G', ?_, ?_, ?_, c6.cg fun x j p q => f x j (by omega)⟩, h4.cg (fun x j q _ => f x j (by omega)) (f _ _ (by omega)) (f _ _ (by omega)), h5.cg (fun x j q _ => f x j (by omega)) (f _ _ (by omega)), h6, ⟨g.1, g.2.1, g.2.2.1, by rw [g.2.2.2]; omega, (f _ _ (by omega)).trans t.2.2.2.2.1, (f _ _ (by omega)).trans t.2.2.2.2.2.1, (f _ _ (by omega)).trans t.2.2.2.2.2.2.1, t.2.2.2.2.2.2.2⟩, fun i hi c hc => (f _ _ (by omega)).trans (h7.2 i hi c hc)⟩
  · rw [f 9 2 (by omega)]; exact c3
  · rw [f 9 3 (by omega)]; exact c4
  · rw [f 9 4 (by omega)]; exact c5
/-- what else the class keeps for read -/
def RC (I : mI) (L : mJ) (P : mP) : Prop := WCL L ∧ (∀ t, 401 ≤ t → I 34 t = nI 0) ∧ Wd I 21 ∧ Wd I 10 ∧ PLC I P
theorem s_lawsBecome (d : Nat) {S : mS} {I : mI} {L : mJ} (G : Gd S) : evM zcod (d + 1) 11 [.ref 17, .ref 28] (S, I, L) = some (none, (S, uI (cpI (cpI I 29 0 18 0 432) 30 0 19 0 4) 17 2 (I 28 2), L)) := by
  have z0 : (nI 0).toInt = 0 := t_nI (by omega)
  have z432 : (nI 432).toInt = 432 := t_nI (by omega)
  have z4 : (nI 4).toInt = 4 := t_nI (by omega)
  have e1 : cpI (cpI I 29 0 18 0 432) 30 0 19 0 4 28 2 = I 28 2 := (cpI_off (by omega)).trans (cpI_off (by omega))
  rw [E_X3_become, B_X3_become_0]
  simp only [gLaw G, if_true, true_and, z0, z432, z4, ixI (show 0 < 2147483648 by omega), ixI (show 432 < 2147483648 by omega), ixI (show 4 < 2147483648 by omega), e1]
  rw [if_pos (by omega), if_pos (by omega)]
theorem c_read (d : Nat) {S : mS} {I : mI} {L : mJ} {P : mP} {r : mW} {H : Nat → mW} {dp : Nat} {Q : Nat → mW} {hd : Nat → Bool} {T : Nat → Nat → Int32} {nt tp : Nat} {fp : Int32} {B : Nat → Int32} (G : Gd S) (h : ZC S I P r H dp Q hd T nt) (hx : XC I tp fp B) (hr : RC I L P) : ∃ K Pl N e res J L', TKS (bC B tp) tp K Pl N e ∧ (∀ t, 401 ≤ t → K t = nI 0) ∧ TX K (fun t => (N t).toInt32) N 401 0 tx0 res ∧ ResOK K res ∧ evM zcod (d + 50) 115 [.ref 7] (S, I, L) = some (some (.int (RAns Pl res).1), (uR S 32 5 8, J, L')) ∧ Fi (fun a _ => a < 384) I J ∧ (∀ a j, ¬ a = 36 → ¬ a = 38 → L' a j = L a j) ∧ XC J 0 (RAns Pl res).2 B ∧ ((∀ T', ¬ GoodT T' res) → ZC (uR S 32 5 8) J P r H dp Q hd T nt ∧ RC J L' P) ∧ ∀ T', GoodT T' res → ZC (uR S 32 5 8) J (P0 T') (r0 T') H 0 Q (fun _ => false) T 0 ∧ RC J L' (P0 T') := by
  obtain ⟨hW, h401, w21, w10, pl⟩ := hr
  obtain ⟨htp, x1, x2, x3⟩ := hx
  obtain ⟨K, Pl, N, e, res, J, L', t1, t2, t3, w, j7, f, lo, q401, ok, good⟩ := s_faultOf d (L := L) G hW htp h401 w21
  have bc : bC (I 8) tp = bC B tp := by
    funext i
    unfold bC
    by_cases c : i < tp
    · rw [if_pos c, if_pos c, x3 i c]
    · rw [if_neg c, if_neg c]
  rw [bc] at t1
  obtain ⟨G', -⟩ := G.tape
  have gt := gTop G
  have gt' := gTop G'
  have W' : WCL L' := fun w hw => (lo 33 w (by omega) (by omega)).trans (hW w hw)
  let J1 := uI J 7 1 (nI 0)
  let J2 := uI J1 7 2 (RAns Pl res).2
  have f1 : Fi (fun a _ => a < 9 ∨ 20 ≤ a ∧ a ≤ 36) I J2 := (f.up fun a j z => by unfold fcF at z; omega).tr (Fi.u (Fi.u Fi.rf (Or.inl (by omega))) (Or.inl (by omega)))
  have o2 : ∀ a j, ¬ a = 7 → J2 a j = J a j := fun a j q => (uI_off q).trans (uI_off q)
  have w21' : Wd J2 21 := by
    obtain ⟨y1, y2, y3, y4, y5, y6⟩ := w21
    have z : ∀ a j, (a = 22 ∨ a = 24 ∨ a = 26) → j < 2 → J2 a j = I a j := fun a j p q => (o2 a j (by omega)).trans (f a j (by unfold fcF; omega))
    exact ⟨(z _ _ (by omega) (by omega)).trans y1, (z _ _ (by omega) (by omega)).trans y2, (z _ _ (by omega) (by omega)).trans y3, (z _ _ (by omega) (by omega)).trans y4, (z _ _ (by omega) (by omega)).trans y5, (z _ _ (by omega) (by omega)).trans y6⟩
  have w10' : Wd J2 10 := w10.cg fun x j p q => f1 x j (by omega)
  have q401' : ∀ t, 401 ≤ t → J2 34 t = nI 0 := fun t ht => (o2 34 t (by omega)).trans (q401 t ht)
  have xc : ∀ {M : mI}, (∀ j, M 7 j = J2 7 j) → (∀ j, M 8 j = J2 8 j) → XC M 0 (RAns Pl res).2 B := fun g1 g2 => ⟨by omega, (g1 1).trans ((uI_ix (by omega)).trans (uI_same _ _ _ _)), (g1 2).trans (uI_same _ _ _ _), fun j hj => absurd hj (Nat.not_lt_zero _)⟩
  have w37 : ∀ x, evk zcod none (d + 49) zc_X11_read 37 [(0, .ref 7), (1, .int (RAns Pl res).1)] [.int x, .ref 7] (uR S 32 5 8, J1, L') = if ¬ (RAns Pl res).1 = nI 0 then some (some (.int (RAns Pl res).1), (uR S 32 5 8, uI J1 7 2 x, L')) else bV (evM zcod (d + 49) 34 [.ref 9, .ref 20] (uR S 32 5 8, uI J1 7 2 x, L')) fun M1 => if M1.1.1 = (uR S 32 5 8).1 then (if kK M1.1 7 = 11 then (if kK M1.1 7 = 11 then (if kK M1.1 (kR M1.1 7 3) = 5 then (if kK M1.1 (kR M1.1 7 6) = 8 then (bV (evM zcod (d + 49) 21 [.ref (kR M1.1 7 6), .ref (kR M1.1 (kR M1.1 7 3) 0)] M1) fun M2 => if M2.1.1 = M1.1.1 then (if kK M2.1 7 = 11 then (if kK M2.1 (kR M2.1 7 12) = 4 then (bV (evM zcod (d + 49) 104 [.ref (kR M2.1 7 12)] M2) fun M3 => if M3.1.1 = M2.1.1 then (evk zcod none (d + 49) zc_X11_read 76 [(0, .ref 7), (1, .int (RAns Pl res).1)] [] M3) else none) else none) else none) else none) else none) else none) else none) else none) else none := by
    intro x
    rw [B_X11_read_37]
    simp only [gt', if_true, B_X11_read_83]
  have w0 : evM zcod (d + 50) 115 [.ref 7] (S, I, L) = if ¬ (RAns Pl res).1 = nI 0 then evk zcod none (d + 49) zc_X11_read 30 [(0, .ref 7), (1, .int (RAns Pl res).1)] [.ref 7] (uR S 32 5 8, J1, L') else evk zcod none (d + 49) zc_X11_read 37 [(0, .ref 7), (1, .int (RAns Pl res).1)] [.int (-1), .ref 7] (uR S 32 5 8, J1, L') := by
    rw [E_X11_read, B_X11_read_0]
    simp only [gt, gRd G, if_true, x1, w, bI_eq]
    rw [if_pos (show (uR S 32 5 8).1 = S.1 from rfl), if_pos gt'.1]
  by_cases a0 : (RAns Pl res).1 = nI 0
  · -- a good text
    have gd : ∃ T', GoodT T' res ∧ (RAns Pl res).2 = -1 := by
      match res, ok, a0 with
      | Sum.inr (t, f'), ok, a0 =>
        exfalso
        have a0' : nI f' = nI 0 := a0
        rcases ok with z | z <;> (rw [z] at a0'; exact absurd a0' (by decide +kernel))
      | Sum.inl (t, T'), ok, a0 =>
        have l0 : (tLt T').1 = 0 := by
          by_cases c : (tLt T').1 = 0
          · exact c
          · exfalso
            have a0' : (if (tLt T').1 = 0 then (nI 0, (-1 : Int32)) else (nI (tLt T').1, Pl (tLt T').2)).1 = nI 0 := a0
            rw [if_neg c] at a0'
            rcases ok.2.2.2.2.2.1 with z | ⟨z | z, _⟩
            · exact c z
            · rw [z] at a0'
              exact absurd a0' (show ¬ nI 3 = nI 0 from by decide +kernel)
            · rw [z] at a0'
              exact absurd a0' (show ¬ nI 5 = nI 0 from by decide +kernel)
        refine ⟨T', ⟨rfl, l0⟩, ?_⟩
        show (if (tLt T').1 = 0 then (nI 0, (-1 : Int32)) else (nI (tLt T').1, Pl (tLt T').2)).2 = -1
        rw [if_pos l0]
    obtain ⟨T', gT, pm⟩ := gd
    have g := good T' gT
    obtain ⟨pv, rv⟩ : PV (P0 T') ∧ RV (P0 T') (r0 T') := by
      obtain ⟨_, _, _, _, _, _, K', t', tk'⟩ := g
      match res, gT with
      | Sum.inl (t, T2), gT =>
        obtain ⟨e1, l0⟩ := gT
        exact P0_ok tk' l0
    have cs21 := g.cs
    obtain ⟨_, _, _, ⟨g4, g5, g6⟩, _, ⟨u, u1, u2, u3⟩, _⟩ := g
    have c21 : CS J2 21 (P0 T') (r0 T') := cs21.congI fun x j p q => o2 x j (by omega)
    have i21 : isSt 21 = true := by decide +kernel
    have i10 : isSt 10 = true := by decide +kernel
    have i39 : isSt 39 = true := by decide +kernel
    obtain ⟨J3, e3, c3, f3⟩ := s_become (d + 45) (S := uR S 32 5 8) (L := L') G' i21 i10 (by omega) pv c21 w10'
    have e4 := s_lawsBecome (d + 47) (S := uR S 32 5 8) (I := J3) (L := L') G'
    let J4 := uI (cpI (cpI J3 29 0 18 0 432) 30 0 19 0 4) 17 2 (J3 28 2)
    have n4 : ∀ a j, ¬ (17 ≤ a ∧ a ≤ 19) → J4 a j = J3 a j := fun a j q => (uI_off (by omega)).trans ((cpI_off (by omega)).trans (cpI_off (by omega)))
    let J5 := uI (uI (uI J4 9 2 (J4 20 2)) 9 3 (J4 20 3)) 9 4 (J4 20 4)
    have n5 : ∀ a j, ¬ a = 9 → J5 a j = J4 a j := fun a j q => (uI_off q).trans ((uI_off q).trans (uI_off q))
    have r3 : ∀ a j, ¬ (10 ≤ a ∧ a ≤ 16) → ¬ a = 7 → J3 a j = J a j := fun a j q q2 => (f3 a j (by omega)).trans (o2 a j q2)
    have m5 : J5 9 2 = tSt T' 0 ∧ J5 9 3 = tSt T' 1 ∧ J5 9 4 = tSt T' 2 := by
      refine ⟨(uI_ix (by omega)).trans ((uI_ix (by omega)).trans ((uI_same _ _ _ _).trans ?_)), (uI_ix (by omega)).trans ((uI_same _ _ _ _).trans ?_), (uI_same _ _ _ _).trans ?_⟩
      · rw [n4 20 2 (by omega), r3 20 2 (by omega) (by omega), g4]
      · rw [n4 20 3 (by omega), r3 20 3 (by omega) (by omega), g5]
      · rw [n4 20 4 (by omega), r3 20 4 (by omega) (by omega), g6]
    have p5 : PLC J5 (P0 T') := by
      refine ⟨u, u1, ?_, fun k hk => ?_⟩
      · rw [n5 17 2 (by omega)]
        refine (uI_same _ _ _ _).trans ?_
        rw [r3 28 2 (by omega) (by omega), u2]
      · obtain ⟨p, p1, p2⟩ := u3 k hk
        refine ⟨p, (tLw T' k).1, (tLw T' k).2, ?_, p2.lo (v := u) (fun j hj => ?_) (Nat.le_refl _), fun v => rfl⟩
        · rw [n5 19 k (by omega)]
          refine (uI_off (by omega)).trans ?_
          rw [cpI_at, if_pos ⟨rfl, by omega, by omega⟩, cpI_off (by omega), r3 30 _ (by omega) (by omega), show 0 + (k - 0) = k by omega, p1]
        · rw [n5 18 j (by omega)]
          refine (uI_off (by omega)).trans ?_
          rw [cpI_off (by omega), cpI_at, if_pos ⟨rfl, by omega, by omega⟩, r3 29 _ (by omega) (by omega), show 0 + (j - 0) = j by omega]
    have e34 : evM zcod (d + 49) 34 [.ref 9, .ref 20] (uR S 32 5 8, J2, L') = some (none, (uR S 32 5 8, J5, L')) := by
      have t3' : uI J4 9 2 (J4 20 2) 20 3 = J4 20 3 := uI_off (by omega)
      have t4' : uI (uI J4 9 2 (J4 20 2)) 9 3 (J4 20 3) 20 4 = J4 20 4 := (uI_off (by omega)).trans (uI_off (by omega))
      rw [E_X5_become, B_X5_become_0]
      simp only [gt', gDraft G', (gDraft G').1.1, (gDraft G').2.2.1.1, (gDraft G').2.1.1.1, (gDraft G').2.2.2.1.1, if_true, e3, bV_eq, e4]
      rw [B_X5_become_38]
      simp only [gt', if_true]
      rw [show uI (cpI (cpI J3 29 0 18 0 432) 30 0 19 0 4) 17 2 (J3 28 2) = J4 from rfl, t3', t4']
    have c10 : CS J5 10 (P0 T') (r0 T') := c3.congI fun x j p q => (n5 x j (by omega)).trans (n4 x j (by omega))
    obtain ⟨h1, h2, ⟨z1, z2, z3, z4, z5, z6⟩, z7, z8, z9, z10'⟩ := h
    have all : ∀ a j, 37 ≤ a → J5 a j = I a j := fun a j q => (n5 a j (by omega)).trans ((n4 a j (by omega)).trans ((f3 a j (by omega)).trans (f1 a j (by omega))))
    have w39 : Wd J5 39 := z1.wd.cg fun x j p q => all x j (by omega)
    obtain ⟨J6, e6, c6, f6⟩ := s_become (d + 46) (S := uR S 32 5 8) (L := L') G' i10 i39 (by omega) pv c10 w39
    have e7 := s_forgetAll (d + 48) (S := uR S 32 5 8) (I := J6) (L := L') G'
    have e8 := s_clear (d + 48) (S := uR S 32 5 8) (I := uI (uI J6 78 2 (nI 0)) 78 4 (nI 0)) (L := L') (t := 382) (gTold G').1
    let J8 := uI (uI (uI J6 78 2 (nI 0)) 78 4 (nI 0)) 382 3 (nI 0)
    have n8 : ∀ a j, ¬ a = 78 → ¬ a = 382 → J8 a j = J6 a j := fun a j q q2 => (uI_off q2).trans ((uI_off q).trans (uI_off q))
    have n86 : ∀ a j, ¬ a = 78 → ¬ a = 382 → ¬ (39 ≤ a ∧ a ≤ 45) → J8 a j = J5 a j := fun a j q q2 q3 => (n8 a j q q2).trans (f6 a j (by omega))
    refine ⟨K, Pl, N, e, res, J8, L', t1, t2, t3, ok, ?_, ?_, lo, ?_, fun z => absurd gT (z T'), fun T2 gT2 => ?_⟩
    · rw [w0, if_neg (fun z => z a0), w37, if_neg (fun z => z a0)]
      have jj : uI J1 7 2 (-1) = J2 := by
        show _ = uI J1 7 2 (RAns Pl res).2
        rw [pm]
      rw [jj]
      simp only [e34, bV_eq, if_true, gt', (gDraft G').2.2.1.1, gPa G', e6, e7]
      rw [if_pos (by have := z1; exact (gSt G' i39).1), B_X11_read_76]
      simp only [gt', gTold G', if_true, e8, bV_eq]
      rw [B_X11_read_83]
    · intro a j q
      rw [n86 a j (by omega) (by omega) (by omega)]
      exact all a j (by omega)
    · exact xc (fun j => (n86 _ _ (by omega) (by omega) (by omega)).trans ((n5 _ _ (by omega)).trans ((n4 _ _ (by omega)).trans (f3 _ _ (by omega))))) (fun j => (n86 _ _ (by omega) (by omega) (by omega)).trans ((n5 _ _ (by omega)).trans ((n4 _ _ (by omega)).trans (f3 _ _ (by omega)))))
    · have eT : T2 = T' := by
        match res, gT, gT2 with
        | Sum.inl (t, X), gT, gT2 => exact gT2.1.symm.trans gT.1
      subst eT
      have p8 : PLC J8 (P0 T2) := p5.cg (n86 _ _ (by omega) (by omega) (by omega)) (fun j => n86 _ _ (by omega) (by omega) (by omega)) (fun j => n86 _ _ (by omega) (by omega) (by omega))
      have g3 := gTold G'
      obtain ⟨y1, y2, y3, nx, y4, y5, y6⟩ := z7
      obtain ⟨o1, o2', o3⟩ := z8
      obtain ⟨t1', t2'⟩ := z10'
      refine ⟨⟨pv, rv, ⟨c6.congI fun x j p q => n8 x j (by omega) (by omega), p8.law G', ?_, ?_, ?_, ?_⟩, ⟨by omega, ?_, fun i hi => (y3 i hi).cg fun x j p q => ?_, nx, y4, ?_, fun i hi => absurd hi (Nat.not_lt_zero _)⟩, ⟨?_, fun s hs => (o2' s hs).cg fun x j p q => ?_, fun s hs z => absurd z Bool.false_ne_true⟩, ⟨by omega, fun i hi => absurd hi (Nat.not_lt_zero _)⟩, ⟨g3.1, g3.2.1, g3.2.2.1, by rw [g3.2.2.2]; omega, ?_, ?_, uI_same _ _ _ _, by omega, by omega, by omega⟩, fun i hi => absurd hi (Nat.not_lt_zero _)⟩, W', fun t ht => ?_, ?_, ?_, p8⟩
      · rw [n86 9 2 (by omega) (by omega) (by omega)]; exact m5.1
      · rw [n86 9 3 (by omega) (by omega) (by omega)]; exact m5.2.1
      · rw [n86 9 4 (by omega) (by omega) (by omega)]; exact m5.2.2
      · exact z6.cg fun x j p q => (n86 x j (by omega) (by omega) (by omega)).trans (all x j (by omega))
      · exact (uI_off (by omega)).trans ((uI_ix (by omega)).trans (uI_same _ _ _ _))
      · exact (n86 x j (by omega) (by omega) (by omega)).trans (all x j (by omega))
      · exact (uI_off (by omega)).trans ((uI_ix (by omega)).trans ((uI_ix (by omega)).trans ((f6 78 1 (by omega)).trans ((all 78 1 (by omega)).trans y5))))
      · refine (uI_off (by omega)).trans ((uI_same _ _ _ _).trans ?_)
        rw [bs_0 (fun _ _ => rfl)]
      · exact (n86 x j (by omega) (by omega) (by omega)).trans (all x j (by omega))
      · exact (uI_ix (by omega)).trans ((uI_off (by omega)).trans ((uI_off (by omega)).trans ((f6 382 0 (by omega)).trans ((all 382 0 (by omega)).trans t1'.2.2.2.2.1))))
      · exact (uI_ix (by omega)).trans ((uI_off (by omega)).trans ((uI_off (by omega)).trans ((f6 382 1 (by omega)).trans ((all 382 1 (by omega)).trans t1'.2.2.2.2.2.1))))
      · exact (n86 34 t (by omega) (by omega) (by omega)).trans ((n5 _ _ (by omega)).trans ((n4 _ _ (by omega)).trans ((f3 _ _ (by omega)).trans (q401' t ht))))
      · exact w21'.cg fun x j p q => (n86 x j (by omega) (by omega) (by omega)).trans ((n5 _ _ (by omega)).trans ((n4 _ _ (by omega)).trans (f3 _ _ (by omega))))
      · exact c10.wd.cg fun x j p q => n86 x j (by omega) (by omega) (by omega)
  · have nG : ∀ T', ¬ GoodT T' res := by
      intro T' gT
      match res, gT, a0 with
      | Sum.inl (t, T2), ⟨e1, l0⟩, a0 =>
        apply a0
        subst e1
        show (if (tLt T2).1 = 0 then (nI 0, (-1 : Int32)) else (nI (tLt T2).1, Pl (tLt T2).2)).1 = nI 0
        rw [if_pos l0]
    refine ⟨K, Pl, N, e, res, J2, L', t1, t2, t3, ok, ?_, fun a j q => f1 a j (by omega), lo, xc (fun _ => rfl) (fun _ => rfl), fun _ => ⟨h.sw G' pl f1, W', q401', w21', w10', pl.cg (f1 _ _ (by omega)) (fun j => f1 _ _ (by omega)) (fun j => f1 _ _ (by omega))⟩, fun T' gT => absurd gT (nG T')⟩
    have e51 : evM zcod (d + 49) 51 [.ref 31] (uR S 32 5 8, J1, L') = some (some (.int (RAns Pl res).2), (uR S 32 5 8, J1, L')) := by
      rw [E_X6_faultPlace, B_X6_faultPlace_0]
      simp only [gRd G', if_true]
      rw [show J1 31 7 = (RAns Pl res).2 from (uI_off (by omega)).trans j7]
    rw [w0, if_pos a0, B_X11_read_30]
    simp only [gt', gRd G', if_true, e51, bI_eq]
    rw [w37, if_pos a0]
