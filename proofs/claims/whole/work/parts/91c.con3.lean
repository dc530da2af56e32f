/-! what the constructors leave -/
def zM0 : zM := ((0, 0, fun _ => 0, fun _ => 0, fun _ _ => 0), fun _ _ => 0, fun _ _ => 0)
theorem y_I {c : ycM} (h : yck 0 c.2.2.1 yI = true) {a b : Nat} {v : Int32} (hm : (decide ((a, b, v) ∈ yI) && decide (a < 440)) = true) : (ydn c).2.1 a b = v := by
  rw [Bool.and_eq_true] at hm
  exact yck_ok h (of_decide_eq_true hm.1) (of_decide_eq_true hm.2)
theorem y_wd : ∀ b ∈ yWs, (decide ((b + 1, 0, nI 7) ∈ yI ∧ (b + 1, 1, nI 7) ∈ yI ∧ (b + 3, 0, nI 5) ∈ yI ∧ (b + 3, 1, nI 4) ∈ yI ∧ (b + 5, 0, nI 5) ∈ yI ∧ (b + 5, 1, nI 4) ∈ yI) && decide (b < 430)) = true := by decide +kernel
theorem y_Wd {c : ycM} (h : yck 0 c.2.2.1 yI = true) {b : Nat} (hb : b ∈ yWs) : Wd (ydn c).2.1 b := by
  have q := y_wd b hb
  rw [Bool.and_eq_true] at q
  obtain ⟨q1, q2⟩ := q
  have q1 := of_decide_eq_true q1
  have q2 := of_decide_eq_true q2
  obtain ⟨a1, a2, a3, a4, a5, a6⟩ := q1
  exact ⟨yck_ok h a1 (by omega), yck_ok h a2 (by omega), yck_ok h a3 (by omega), yck_ok h a4 (by omega), yck_ok h a5 (by omega), yck_ok h a6 (by omega)⟩
theorem y_18 : ∀ j, j < 10 → (18, j, dcl j) ∈ yI := by decide +kernel
theorem y_19 : ∀ j, j < 4 → (19, j, nI (dst j)) ∈ yI ∧ (407, j, nI 0) ∈ yI ∧ (408, j, nI 0) ∈ yI := by decide +kernel
theorem y_419 : ∀ j, j < 58 → (419, j, r0 tx0 j) ∈ yI := by decide +kernel
theorem y_W1 : ∀ i, i < 40 → 80 + 7 * i ∈ yWs := by decide +kernel
theorem y_W2 : ∀ i, i < 3 → 361 + 7 * i ∈ yWs := by decide +kernel
theorem y_zRT : ∀ q ∈ zRT, q.1 < 437 := by decide +kernel
theorem y_L : ∀ w, w < 22 → (33, w, lN (wN 32 w)) ∈ yL ∧ (391, w, lN (wN 27 w)) ∈ yL := by decide +kernel
theorem y_gd {c : ycM} (h : (Nat.beq c.1.1 430 && Nat.beq c.1.2.1 21857 && (List.range 430).all (fun r => decide (yeK c.1.2.2 (r + 7) = zKN.getD r (0, 0)))) = true) (h2 : yck 0 c.2.1 zRT = true) : Gd (ydn c).1 ∧ (ydn c).1.2.1 = 21857 := by
  simp only [Bool.and_eq_true] at h
  obtain ⟨⟨q1, q2⟩, q3⟩ := h
  have e1 : c.1.1 = 430 := Nat.eq_of_beq_eq_true q1
  refine ⟨⟨e1, fun r hr => ?_, fun q hq => ?_⟩, Nat.eq_of_beq_eq_true q2⟩
  · have q := of_decide_eq_true (List.all_eq_true.mp q3 r (List.mem_range.mpr hr))
    refine ⟨?_, congrArg Prod.snd q⟩
    unfold kK
    rw [if_neg (by omega), if_pos (by show r + 7 < c.1.1 + 7; omega)]
    exact congrArg Prod.fst q
  · exact yck_ok (z := 0) (a := q.1) (b := q.2.1) (v := q.2.2) h2 hq (by have := y_zRT q hq; omega)
theorem y_class {c : ycM} (G : Gd (ydn c).1) (h3 : yck 0 c.2.2.1 yI = true) (H Q : Nat → mW) (T : Nat → Nat → Int32) : PLC (ydn c).2.1 (P0 tx0) ∧ ZC (ydn c).1 (ydn c).2.1 (P0 tx0) (r0 tx0) H 0 Q (fun _ => false) T 0 := by
  have e := fun {a b v} q => y_I h3 (a := a) (b := b) (v := v) q
  have W := fun {b} q => y_Wd h3 (b := b) q
  have cl : CLR (ydn c).2.1 17 18 19 10 4 := ⟨e (by decide +kernel), fun j hj => yck_ok h3 (y_18 j hj) (by omega), fun j hj => yck_ok h3 (y_19 j hj).1 (by omega)⟩
  have pl : PLC (ydn c).2.1 (P0 tx0) := by
    obtain ⟨a, b⟩ := cl.lw
    exact ⟨10, by omega, a, fun k hk => by
      obtain ⟨p, p1, p2⟩ := b k hk
      exact ⟨p, _, _, p1, p2, fun v => rfl⟩⟩
  obtain ⟨pv, rv⟩ := P0_ok (tx0_ok (fun _ => 0)) rfl
  have g := gTold G
  have n0 : nLo (P0 tx0) = 0 ∧ nSi (P0 tx0) = 0 ∧ nHo (P0 tx0) = 0 := ⟨rfl, rfl, rfl⟩
  refine ⟨pl, pv, rv, ⟨⟨⟨(W (b := 39) (by decide +kernel)).1, (W (b := 39) (by decide +kernel)).2.1, e (by decide +kernel)⟩, ⟨(W (b := 39) (by decide +kernel)).2.2.1, (W (b := 39) (by decide +kernel)).2.2.2.1, e (by decide +kernel)⟩, ⟨(W (b := 39) (by decide +kernel)).2.2.2.2.1, (W (b := 39) (by decide +kernel)).2.2.2.2.2, e (by decide +kernel)⟩, fun i hi => by omega, fun i hi => by omega, fun i hi => by omega, e (by decide +kernel), e (by decide +kernel), e (by decide +kernel)⟩, pl.law G, e (by decide +kernel), e (by decide +kernel), e (by decide +kernel), W (by decide +kernel)⟩, ⟨by omega, e (by decide +kernel), fun i hi => W (y_W1 i hi), 0, by omega, e (by decide +kernel), fun i hi => by omega⟩, ⟨?_, fun s hs => W (y_W2 s hs), fun s hs q => by cases q⟩, ⟨by omega, fun i hi => by omega⟩, ⟨g.1, g.2.1, g.2.2.1, by rw [g.2.2.2]; omega, e (by decide +kernel), e (by decide +kernel), e (by decide +kernel), by omega, by omega, by omega⟩, fun i hi => by omega⟩
  rw [bs_0 (fun _ _ => rfl)]
  exact e (by decide +kernel)
theorem y_model {c : ycM} (G : Gd (ydn c).1) (h3 : yck 0 c.2.2.1 yI = true) (H Q : Nat → mW) (T : Nat → Nat → Int32) : PLM (ydn c).2.1 (P0 tx0) 0 ∧ ZM (ydn c).1 (ydn c).2.1 (P0 tx0) 0 (r0 tx0) H 0 Q (fun _ => false) T 0 := by
  have e := fun {a b v} q => y_I h3 (a := a) (b := b) (v := v) q
  obtain ⟨pv, rv⟩ := P0_ok (tx0_ok (fun _ => 0)) rfl
  have n0 : nLo (P0 tx0) = 0 ∧ nSi (P0 tx0) = 0 ∧ nHo (P0 tx0) = 0 := ⟨rfl, rfl, rfl⟩
  have cl : CLR (ydn c).2.1 17 18 19 10 4 := ⟨e (by decide +kernel), fun j hj => yck_ok h3 (y_18 j hj) (by omega), fun j hj => yck_ok h3 (y_19 j hj).1 (by omega)⟩
  have pl : PLM (ydn c).2.1 (P0 tx0) 0 := by
    refine ⟨by omega, e (by decide +kernel), fun k hk => ?_⟩
    obtain ⟨p, p1, p2⟩ := cl.lw.2 k hk
    exact ⟨0, 0, 0, _, _, yck_ok (b := 4 * 0 + k) h3 (by rw [Nat.mul_zero, Nat.zero_add]; exact (y_19 k hk).2.1) (by omega), yck_ok (b := 4 * 0 + k) h3 (by rw [Nat.mul_zero, Nat.zero_add]; exact (y_19 k hk).2.2) (by omega), by omega, Or.inl ⟨rfl, fun w => dfl_w w k hk⟩, fun w => rfl, fun w => p2.nine w⟩
  refine ⟨pl, pv, rv, ⟨by omega, e (by decide +kernel), e (by decide +kernel), e (by decide +kernel), e (by decide +kernel), e (by decide +kernel), e (by decide +kernel), e (by decide +kernel), fun i hi => by omega, fun i hi => by omega, fun i hi => by omega, pl.law G⟩, fun j hj => yck_ok h3 (y_419 j hj) (by omega), ⟨by omega, e (by decide +kernel), fun i hi => by omega⟩, ⟨fun s hs => ?_, fun s hs q => by cases q⟩, ⟨by omega, fun i hi => by omega⟩, ⟨e (by decide +kernel), fun i hi => by omega⟩, fun i hi => by omega, fun s hs q => by cases q⟩
  show _ = nI 0
  rcases (show s = 0 ∨ s = 1 ∨ s = 2 by omega) with rfl | rfl | rfl
  · exact e (by decide +kernel)
  · exact e (by decide +kernel)
  · exact e (by decide +kernel)
theorem y_mk {c c2 : ycM} (e1 : yrun1 = some (none, c)) (e2 : c.1.1 = 377) (e3 : yrun2 c = some (none, c2)) (h1 : (Nat.beq c2.1.1 430 && Nat.beq c2.1.2.1 21857 && (List.range 430).all (fun r => decide (yeK c2.1.2.2 (r + 7) = zKN.getD r (0, 0)))) = true) (h2 : yck 0 c2.2.1 zRT = true) (h3 : yck 0 c2.2.2.1 yI = true) (h4 : (yck 0 c2.2.2.2 yL && c2.2.2.1.all (fun e => !(Nat.beq e.1 34))) = true) (H Q : Nat → mW) (T : Nat → Nat → Int32) (B : Nat → Int32) : ∃ (M1 : zM) (S : mS) (I : mI) (L : mJ), evM zcod 60 112 [.ref 7] (alc zM0 11 14) = some (none, M1) ∧ M1.1.1 = 377 ∧ evM zcod 60 155 [.ref 384] (alc M1 12 82) = some (none, (S, I, L)) ∧ Gd S ∧ S.2.1 = 21857 ∧ (ZC S I (P0 tx0) (r0 tx0) H 0 Q (fun _ => false) T 0 ∧ XC I 0 (-1) B ∧ RC I L (P0 tx0)) ∧ ZM S I (P0 tx0) 0 (r0 tx0) H 0 Q (fun _ => false) T 0 ∧ XM I 0 (-1) B ∧ RM I L (P0 tx0) 0 := by
  have w0 : yWFc yc0 := ⟨fun _ h => absurd h List.not_mem_nil, fun _ h => absurd h List.not_mem_nil, fun _ h => absurd h List.not_mem_nil⟩
  obtain ⟨w1, r1⟩ := ymtC_ev (w0.al 11 14) e1
  obtain ⟨w2, r2⟩ := ymtC_ev (w1.al 12 82) e3
  rw [yalC_d w0] at r1
  rw [yalC_d w1] at r2
  obtain ⟨G, sl⟩ := y_gd h1 h2
  rw [Bool.and_eq_true] at h4
  obtain ⟨pl, zc⟩ := y_class G h3 H Q T
  obtain ⟨pm, zm⟩ := y_model G h3 H Q T
  have e := fun {a b v} q => y_I h3 (a := a) (b := b) (v := v) q
  have W := fun {b} q => y_Wd h3 (b := b) q
  refine ⟨ydn c, (ydn c2).1, (ydn c2).2.1, (ydn c2).2.2, r1, e2, r2, G, sl, ⟨zc, ⟨by omega, e (by decide +kernel), e (by decide +kernel), fun j hj => by omega⟩, fun w hw => yck_ok h4.1 (y_L w hw).1 (by omega), fun t _ => ?_, W (by decide +kernel), W (by decide +kernel), pl⟩, zm, ⟨by omega, e (by decide +kernel), e (by decide +kernel), fun j hj => by omega⟩, fun w hw => yck_ok h4.1 (y_L w hw).2 (by omega), pm⟩
  refine (ylk_no t fun x hx q => ?_).trans l_0
  have := List.all_eq_true.mp h4.2 x hx
  rw [q] at this
  cases this
theorem y_made (H Q : Nat → mW) (T : Nat → Nat → Int32) (B : Nat → Int32) : ∃ (M1 : zM) (S : mS) (I : mI) (L : mJ), evM zcod 60 112 [.ref 7] (alc zM0 11 14) = some (none, M1) ∧ M1.1.1 = 377 ∧ evM zcod 60 155 [.ref 384] (alc M1 12 82) = some (none, (S, I, L)) ∧ Gd S ∧ S.2.1 = 21857 ∧ (ZC S I (P0 tx0) (r0 tx0) H 0 Q (fun _ => false) T 0 ∧ XC I 0 (-1) B ∧ RC I L (P0 tx0)) ∧ ZM S I (P0 tx0) 0 (r0 tx0) H 0 Q (fun _ => false) T 0 ∧ XM I 0 (-1) B ∧ RM I L (P0 tx0) 0 := y_mk (ylt_eq yok_1) rfl (ylt_eq yok_2) yok_3 yok_4 yok_5 yok_6 H Q T B
