/-! class and reference side by side: each pair of calls answers the same and lives on -/
def WV (S : mS) (I : mI) (L : mJ) : Prop := Gd S ∧ S.2.1 = 21857 ∧ ∃ (P : mP) (v : Nat) (r : mW) (H : Nat → mW) (dp : Nat) (Q : Nat → mW) (hd : Nat → Bool) (T : Nat → Nat → Int32) (nt tp : Nat) (fp : Int32) (Bt : Nat → Int32), (ZC S I P r H dp Q hd T nt ∧ XC I tp fp Bt ∧ RC I L P) ∧ ZM S I P v r H dp Q hd T nt ∧ XM I tp fp Bt ∧ RM I L P v
def Two (mc mq : Nat) (ac aq : List Value) (S : mS) (I : mI) (L : mJ) : Prop := ∃ x S1 J1 L1 S2 J2 L2, evM zcod 60 mc ac (S, I, L) = some (some (.int x), (S1, J1, L1)) ∧ S1.1 = S.1 ∧ Gd S1 ∧ evM zcod 60 mq aq (S1, J1, L1) = some (some (.int x), (S2, J2, L2)) ∧ S2.1 = S1.1 ∧ WV S2 J2 L2
theorem RC.k {A : Nat → Nat → Prop} {I J : mI} {L : mJ} {P : mP} (h : RC I L P) (f : Fi A I J) (q : ∀ a j, A a j → ¬ (10 ≤ a ∧ a ≤ 34)) : RC J L P := by
  have e : ∀ a j, 10 ≤ a → a ≤ 34 → J a j = I a j := fun a j h1 h2 => f a j fun z => q a j z ⟨h1, h2⟩
  exact ⟨h.1, fun t ht => (e _ _ (by omega) (by omega)).trans (h.2.1 t ht), h.2.2.1.cg (fun x j p q => e x j (by omega) (by omega)), h.2.2.2.1.cg (fun x j p q => e x j (by omega) (by omega)), h.2.2.2.2.cg (e 17 2 (by omega) (by omega)) (fun j => e 18 j (by omega) (by omega)) (fun j => e 19 j (by omega) (by omega))⟩
theorem RC.l {I : mI} {L L' : mJ} {P : mP} (h : RC I L P) (e : ∀ w, L' 33 w = L 33 w) : RC I L' P := ⟨fun w hw => (e w).trans (h.1 w hw), h.2⟩
theorem RM.k {A : Nat → Nat → Prop} {I J : mI} {L : mJ} {P : mP} {v : Nat} (h : RM I L P v) (f : Fi A I J) (q : ∀ a j, A a j → ¬ (a = 384 ∧ j = 18 ∨ 407 ≤ a ∧ a ≤ 415)) : RM J L P v := by
  have e : ∀ a j, (a = 384 ∧ j = 18 ∨ 407 ≤ a ∧ a ≤ 415) → J a j = I a j := fun a j h1 => f a j fun z => q a j z h1
  exact ⟨h.1, h.2.cg (e _ _ (Or.inl ⟨rfl, rfl⟩)) (fun a j q _ _ => e a j (by omega)) (fun a q1 q2 j _ _ => e a j (by omega)) (fun j _ _ => ⟨e 414 j (by omega), e 415 j (by omega)⟩)⟩
theorem RM.l {I : mI} {L L' : mJ} {P : mP} {v : Nat} (h : RM I L P v) (e : ∀ w, L' 391 w = L 391 w) : RM I L' P v := ⟨fun w hw => (e w).trans (h.1 w hw), h.2⟩
theorem WV.mk {A B : Nat → Nat → Prop} {S : mS} {I J N : mI} {L : mJ} {P : mP} {v : Nat} {r : mW} {H : Nat → mW} {dp : Nat} {Q : Nat → mW} {hd : Nat → Bool} {T : Nat → Nat → Int32} {nt tp : Nat} {fp : Int32} {Bt : Nat → Int32} (G : Gd S) (sl : S.2.1 = 21857) (f : Fi A I J) (g : Fi B J N) (hA : ∀ a j, A a j → a < 384 ∧ ¬ (10 ≤ a ∧ a ≤ 34)) (hB : ∀ a j, B a j → 384 ≤ a ∧ ¬ (a = 384 ∧ j = 18 ∨ 407 ≤ a ∧ a ≤ 415)) (rc : RC I L P) (rm : RM I L P v) (zc : ZC S J P r H dp Q hd T nt) (xc : XC J tp fp Bt) (zm : ZM S N P v r H dp Q hd T nt) (xm : XM N tp fp Bt) : WV S N L := by
  have g4 : Fi (fun a _ => 384 ≤ a) J N := g.up fun a j q => (hB a j q).1
  exact ⟨G, sl, P, v, r, H, dp, Q, hd, T, nt, tp, fp, Bt, ⟨zc.lo g4, xc.cg g4 (fun j => by omega), (rc.k f fun a j q => (hA a j q).2).k g fun a j q => by have := (hB a j q).1; omega⟩, zm, xm, (rm.k f fun a j q => by have := (hA a j q).1; omega).k g fun a j q => (hB a j q).2⟩
theorem ask {S : mS} {I : mI} {L : mJ} {P : mP} {v : Nat} {r : mW} {H : Nat → mW} {dp : Nat} {Q : Nat → mW} {hd : Nat → Bool} {T : Nat → Nat → Int32} {nt tp : Nat} {fp : Int32} {Bt : Nat → Int32} (G : Gd S) (sl : S.2.1 = 21857) (zc : ZC S I P r H dp Q hd T nt) (xc : XC I tp fp Bt) (rc : RC I L P) (zm : ZM S I P v r H dp Q hd T nt) (xm : XM I tp fp Bt) (rm : RM I L P v) {x : Int32} {mc mq : Nat} {ac aq : List Value} (hc : ∃ J, evM zcod 60 mc ac (S, I, L) = some (some (.int x), (S, J, L)) ∧ Fi jk I J) (hq : ∀ J, ZM S J P v r H dp Q hd T nt → XM J tp fp Bt → ∃ N, evM zcod 60 mq aq (S, J, L) = some (some (.int x), (S, N, L)) ∧ Fi mj J N) : Two mc mq ac aq S I L := by
  obtain ⟨J, e1, f⟩ := hc
  have fl : Fi (fun a _ => a < 384) I J := f.up fun a j q => by unfold jk at q; omega
  have zmJ := zm.hi fl
  have xmJ : XM J tp fp Bt := xm.cg fl ⟨by omega, by omega, fun j => by omega⟩
  obtain ⟨N, e2, g⟩ := hq J zmJ xmJ
  exact ⟨x, S, J, L, S, N, L, e1, rfl, G, e2, rfl, WV.mk G sl f g (fun a j q => by unfold jk at q; omega) (fun a j q => by unfold mj at q; omega) rc rm (zc.fi f) (xc.cg f jk_7) (zmJ.fi g) (xmJ.cg g mj_tp)⟩
theorem chg (c : Prop) {dc : Decidable c} {A B : Nat → Nat → Prop} {S : mS} {I : mI} {L : mJ} {P : mP} {v : Nat} {r : mW} {H : Nat → mW} {dp : Nat} {Q : Nat → mW} {hd : Nat → Bool} {T : Nat → Nat → Int32} {nt tp : Nat} {fp : Int32} {Bt : Nat → Int32} {r1 : mW} {H1 : Nat → mW} {dp1 : Nat} {Q1 : Nat → mW} {hd1 : Nat → Bool} {T1 : Nat → Nat → Int32} {nt1 : Nat} {r2 : mW} {H2 : Nat → mW} {dp2 : Nat} {Q2 : Nat → mW} {hd2 : Nat → Bool} {T2 : Nat → Nat → Int32} {nt2 : Nat} (G : Gd S) (sl : S.2.1 = 21857) (zc : ZC S I P r H dp Q hd T nt) (xc : XC I tp fp Bt) (rc : RC I L P) (zm : ZM S I P v r H dp Q hd T nt) (xm : XM I tp fp Bt) (rm : RM I L P v) {x : Int32} {mc mq : Nat} {ac aq : List Value} (hc : ∃ J, evM zcod 60 mc ac (S, I, L) = some (some (.int x), (S, J, L)) ∧ (if c then ZC S J P r1 H1 dp1 Q1 hd1 T1 nt1 else ZC S J P r2 H2 dp2 Q2 hd2 T2 nt2) ∧ Fi A I J) (hq : ∀ J, ZM S J P v r H dp Q hd T nt → ∃ N, evM zcod 60 mq aq (S, J, L) = some (some (.int x), (S, N, L)) ∧ (if c then ZM S N P v r1 H1 dp1 Q1 hd1 T1 nt1 else ZM S N P v r2 H2 dp2 Q2 hd2 T2 nt2) ∧ Fi B J N) (hA : ∀ a j, A a j → 9 ≤ a ∧ a < 384 ∧ ¬ (10 ≤ a ∧ a ≤ 34)) (hB : ∀ a j, B a j → 384 ≤ a ∧ ¬ (a = 384 ∧ (j = 18 ∨ j = 2 ∨ j = 17) ∨ a = 385 ∨ 407 ≤ a ∧ a ≤ 415)) : Two mc mq ac aq S I L := by
  obtain ⟨J, e1, z1, f⟩ := hc
  have fl : Fi (fun a _ => a < 384) I J := f.up fun a j q => (hA a j q).2.1
  have zmJ := zm.hi fl
  have xmJ : XM J tp fp Bt := xm.cg fl ⟨by omega, by omega, fun j => by omega⟩
  obtain ⟨N, e2, z2, g⟩ := hq J zmJ
  have xcJ : XC J tp fp Bt := xc.cg f fun j => ⟨fun q => by have := (hA _ _ q).1; omega, fun q => by have := (hA _ _ q).1; omega⟩
  have xmN : XM N tp fp Bt := xmJ.cg g ⟨fun q => (hB _ _ q).2 (Or.inl ⟨rfl, Or.inr (Or.inl rfl)⟩), fun q => (hB _ _ q).2 (Or.inl ⟨rfl, Or.inr (Or.inr rfl)⟩), fun j q => (hB _ _ q).2 (Or.inr (Or.inl rfl))⟩
  have hA' : ∀ a j, A a j → a < 384 ∧ ¬ (10 ≤ a ∧ a ≤ 34) := fun a j q => (hA a j q).2
  have hB' : ∀ a j, B a j → 384 ≤ a ∧ ¬ (a = 384 ∧ j = 18 ∨ 407 ≤ a ∧ a ≤ 415) := fun a j q => by have := hB a j q; omega
  refine ⟨x, S, J, L, S, N, L, e1, rfl, G, e2, rfl, ?_⟩
  by_cases q : c
  · rw [if_pos q] at z1 z2
    exact WV.mk G sl f g hA' hB' rc rm z1 xcJ z2 xmN
  · rw [if_neg q] at z1 z2
    exact WV.mk G sl f g hA' hB' rc rm z1 xcJ z2 xmN
theorem tap (c : Prop) {_ : Decidable c} {S : mS} {I : mI} {L : mJ} {P : mP} {v : Nat} {r : mW} {H : Nat → mW} {dp : Nat} {Q : Nat → mW} {hd : Nat → Bool} {T : Nat → Nat → Int32} {nt tp : Nat} {fp : Int32} {Bt : Nat → Int32} {tp1 : Nat} {B1 : Nat → Int32} (G : Gd S) (sl : S.2.1 = 21857) (zc : ZC S I P r H dp Q hd T nt) (xc : XC I tp fp Bt) (rc : RC I L P) (zm : ZM S I P v r H dp Q hd T nt) (xm : XM I tp fp Bt) (rm : RM I L P v) {x : Int32} {mc mq : Nat} {ac aq : List Value} (hc : ∃ J, evM zcod 60 mc ac (S, I, L) = some (some (.int x), (S, J, L)) ∧ (if c then XC J tp1 fp B1 else XC J tp fp Bt) ∧ Fi (fun a j => a = 8 ∨ a = 7 ∧ j = 1) I J) (hq : ∀ J, XM J tp fp Bt → ∃ N, evM zcod 60 mq aq (S, J, L) = some (some (.int x), (S, N, L)) ∧ (if c then XM N tp1 fp B1 else XM N tp fp Bt) ∧ Fi (fun a j => a = 385 ∨ a = 384 ∧ j = 2) J N) : Two mc mq ac aq S I L := by
  obtain ⟨J, e1, z1, f⟩ := hc
  have fl : Fi (fun a _ => a < 384) I J := f.up fun a j q => by omega
  have xmJ : XM J tp fp Bt := xm.cg fl ⟨by omega, by omega, fun j => by omega⟩
  obtain ⟨N, e2, z2, g⟩ := hq J xmJ
  have zcJ := zc.tp (f.up fun a j q => by omega)
  have zmN := (zm.hi fl).tp g
  refine ⟨x, S, J, L, S, N, L, e1, rfl, G, e2, rfl, ?_⟩
  by_cases q : c
  · rw [if_pos q] at z1 z2
    exact WV.mk G sl f g (fun a j q => by omega) (fun a j q => by omega) rc rm zcJ z1 zmN z2
  · rw [if_neg q] at z1 z2
    exact WV.mk G sl f g (fun a j q => by omega) (fun a j q => by omega) rc rm zcJ z1 zmN z2
theorem t_read {S : mS} {I : mI} {L : mJ} (h : WV S I L) : Two 115 173 [.ref 7] [.ref 384] S I L := by
  obtain ⟨G, sl, P, v, r, H, dp, Q, hd, T, nt, tp, fp, Bt, ⟨zc, xc, rc⟩, zm, xm, rm⟩ := h
  obtain ⟨K, Pl, N, e, res, J, L1, k1, k2, k3, k4, e1, f1, l1, x1, no1, yes1⟩ := c_read 10 G zc xc rc
  have G' := (Gd.tape G).1
  have rmJ : RM J L P v := rm.k f1 fun a j q => by omega
  have zmJ := (zm.hi f1).sw G' rmJ.2
  have xmJ : XM J tp fp Bt := xm.cg f1 ⟨by omega, by omega, fun j => by omega⟩
  obtain ⟨M, L2, e2, f2, l2, x2, no2, yes2⟩ := q_read 10 G' zmJ xmJ (rmJ.l fun w => l1 391 w (by omega) (by omega)) k1 k2 k3 k4
  have xcM : XC M 0 (RAns Pl res).2 Bt := x1.cg f2 fun j => by omega
  refine ⟨_, _, _, _, _, _, _, e1, rfl, G', e2, rfl, ?_⟩
  by_cases hg : ∃ T', GoodT T' res
  · obtain ⟨T', hT⟩ := hg
    obtain ⟨zc', rc'⟩ := yes1 T' hT
    obtain ⟨v', zm', rm'⟩ := yes2 T' hT
    exact ⟨G', sl, P0 T', v', r0 T', H, 0, Q, fun _ => false, T, 0, 0, _, Bt, ⟨zc'.lo f2, xcM, (rc'.k f2 fun a j q => by omega).l fun w => l2 33 w (by omega) (by omega)⟩, zm', x2, rm'⟩
  · obtain ⟨zc', rc'⟩ := no1 fun T' q => hg ⟨T', q⟩
    obtain ⟨zm', rm'⟩ := no2 fun T' q => hg ⟨T', q⟩
    exact ⟨G', sl, P, v, r, H, dp, Q, hd, T, nt, 0, _, Bt, ⟨zc'.lo f2, xcM, (rc'.k f2 fun a j q => by omega).l fun w => l2 33 w (by omega) (by omega)⟩, zm', x2, rm'⟩
theorem t_place {S : mS} {I : mI} {L : mJ} (h : WV S I L) : Two 116 174 [.ref 7] [.ref 384] S I L := by
  obtain ⟨G, sl, P, v, r, H, dp, Q, hd, T, nt, tp, fp, Bt, ⟨zc, xc, rc⟩, zm, xm, rm⟩ := h
  exact ask G sl zc xc rc zm xm rm ⟨I, c_place 59 G xc, Fi.rf⟩ (fun J z x => ⟨J, q_place 59 G x, Fi.rf⟩)
theorem t_load {S : mS} {I : mI} {L : mJ} (h : WV S I L) (y1 y2 : Int32) : Two 117 218 [.ref 7, .int y1, .int y2] [.ref 384, .int y1, .int y2] S I L := by
  obtain ⟨G, sl, P, v, r, H, dp, Q, hd, T, nt, tp, fp, Bt, ⟨zc, xc, rc⟩, zm, xm, rm⟩ := h
  exact ask G sl zc xc rc zm xm rm ⟨I, c_load 58 G zc.1 zc.2.2.1 y1 y2, Fi.rf⟩ (fun J z x => ⟨J, q_load 57 G z.1 z.2.2.1 z.2.2.2.1 y1 y2, Fi.rf⟩)
theorem t_silk {S : mS} {I : mI} {L : mJ} (h : WV S I L) (y1 y2 : Int32) : Two 118 219 [.ref 7, .int y1, .int y2] [.ref 384, .int y1, .int y2] S I L := by
  obtain ⟨G, sl, P, v, r, H, dp, Q, hd, T, nt, tp, fp, Bt, ⟨zc, xc, rc⟩, zm, xm, rm⟩ := h
  exact ask G sl zc xc rc zm xm rm ⟨I, c_silk 58 G zc.1 zc.2.2.1 y1 y2, Fi.rf⟩ (fun J z x => ⟨J, q_silk 57 G z.1 z.2.2.1 z.2.2.2.1 y1 y2, Fi.rf⟩)
theorem t_pull {S : mS} {I : mI} {L : mJ} (h : WV S I L) (y1 : Int32) : Two 119 220 [.ref 7, .int y1] [.ref 384, .int y1] S I L := by
  obtain ⟨G, sl, P, v, r, H, dp, Q, hd, T, nt, tp, fp, Bt, ⟨zc, xc, rc⟩, zm, xm, rm⟩ := h
  exact ask G sl zc xc rc zm xm rm ⟨I, c_pull 58 G zc.1 zc.2.2.1 y1, Fi.rf⟩ (fun J z x => ⟨J, q_pull 57 G z.1 z.2.2.1 z.2.2.2.1 y1, Fi.rf⟩)
theorem t_hook {S : mS} {I : mI} {L : mJ} (h : WV S I L) (y1 y2 : Int32) : Two 120 221 [.ref 7, .int y1, .int y2] [.ref 384, .int y1, .int y2] S I L := by
  obtain ⟨G, sl, P, v, r, H, dp, Q, hd, T, nt, tp, fp, Bt, ⟨zc, xc, rc⟩, zm, xm, rm⟩ := h
  exact ask G sl zc xc rc zm xm rm ⟨I, c_hook 58 G zc.1 zc.2.2.1 y1 y2, Fi.rf⟩ (fun J z x => ⟨J, q_hook 57 G z.1 z.2.2.1 z.2.2.2.1 y1 y2, Fi.rf⟩)
theorem t_tells {S : mS} {I : mI} {L : mJ} (h : WV S I L) (y1 y2 y3 : Int32) : Two 121 222 [.ref 7, .int y1, .int y2, .int y3] [.ref 384, .int y1, .int y2, .int y3] S I L := by
  obtain ⟨G, sl, P, v, r, H, dp, Q, hd, T, nt, tp, fp, Bt, ⟨zc, xc, rc⟩, zm, xm, rm⟩ := h
  exact ask G sl zc xc rc zm xm rm (c_tells 56 G zc.1 zc.2.2.1 y1 y2 y3) (fun J z x => q_tells 56 G z.1 z.2.2.1 z.2.2.2.1 y1 y2 y3)
theorem t_flight {S : mS} {I : mI} {L : mJ} (h : WV S I L) (y1 y2 y3 y4 : Int32) : Two 127 235 [.ref 7, .int y1, .int y2, .int y3, .int y4] [.ref 384, .int y1, .int y2, .int y3, .int y4] S I L := by
  obtain ⟨G, sl, P, v, r, H, dp, Q, hd, T, nt, tp, fp, Bt, ⟨zc, xc, rc⟩, zm, xm, rm⟩ := h
  exact ask G sl zc xc rc zm xm rm (c_flight 54 G zc.1 zc.2.1 zc.2.2.1 y1 y2 y3 y4) (fun J z x => q_flight 53 G z.1 z.2.1 z.2.2.1 z.2.2.2.1 y1 y2 y3 y4)
theorem t_soon {S : mS} {I : mI} {L : mJ} (h : WV S I L) (y1 y2 y3 : Int32) : Two 128 236 [.ref 7, .int y1, .int y2, .int y3] [.ref 384, .int y1, .int y2, .int y3] S I L := by
  obtain ⟨G, sl, P, v, r, H, dp, Q, hd, T, nt, tp, fp, Bt, ⟨zc, xc, rc⟩, zm, xm, rm⟩ := h
  exact ask G sl zc xc rc zm xm rm (c_soon 54 G zc.1 zc.2.1 zc.2.2.1 y1 y2 y3) (fun J z x => q_soon 53 G z.1 z.2.1 z.2.2.1 z.2.2.2.1 y1 y2 y3)
theorem t_patches {S : mS} {I : mI} {L : mJ} (h : WV S I L) (y1 y2 y3 : Int32) : Two 129 237 [.ref 7, .int y1, .int y2, .int y3] [.ref 384, .int y1, .int y2, .int y3] S I L := by
  obtain ⟨G, sl, P, v, r, H, dp, Q, hd, T, nt, tp, fp, Bt, ⟨zc, xc, rc⟩, zm, xm, rm⟩ := h
  exact ask G sl zc xc rc zm xm rm (c_patches 53 G zc.1 zc.2.1 zc.2.2.1 y1 y2 y3) (fun J z x => q_patches 53 G z.1 z.2.1 z.2.2.1 z.2.2.2.1 y1 y2 y3)
theorem t_near {S : mS} {I : mI} {L : mJ} (h : WV S I L) (y1 : Int32) : Two 130 238 [.ref 7, .int y1] [.ref 384, .int y1] S I L := by
  obtain ⟨G, sl, P, v, r, H, dp, Q, hd, T, nt, tp, fp, Bt, ⟨zc, xc, rc⟩, zm, xm, rm⟩ := h
  exact ask G sl zc xc rc zm xm rm ⟨I, c_near 57 G zc.1 zc.2.1 zc.2.2.1 y1, Fi.rf⟩ (fun J z x => q_near 57 G z.1 z.2.2.1 z.2.2.2.1 y1)
theorem t_lifts {S : mS} {I : mI} {L : mJ} (h : WV S I L) (y1 y2 : Int32) : Two 131 239 [.ref 7, .int y1, .int y2] [.ref 384, .int y1, .int y2] S I L := by
  obtain ⟨G, sl, P, v, r, H, dp, Q, hd, T, nt, tp, fp, Bt, ⟨zc, xc, rc⟩, zm, xm, rm⟩ := h
  exact ask G sl zc xc rc zm xm rm (c_lifts 55 G zc.1 zc.2.1 zc.2.2.1 y1 y2) (fun J z x => q_lifts 54 G z.1 z.2.1 z.2.2.1 z.2.2.2.1 y1 y2)
theorem t_fill {S : mS} {I : mI} {L : mJ} (h : WV S I L) (y1 : Int32) : Two 132 244 [.ref 7, .int y1] [.ref 384, .int y1] S I L := by
  obtain ⟨G, sl, P, v, r, H, dp, Q, hd, T, nt, tp, fp, Bt, ⟨zc, xc, rc⟩, zm, xm, rm⟩ := h
  exact ask G sl zc xc rc zm xm rm (c_fill 52 G zc.1 zc.2.1 zc.2.2.1 y1) (fun J z x => q_fill 52 G z.1 z.2.1 z.2.2.1 z.2.2.2.1 y1)
theorem t_fewest {S : mS} {I : mI} {L : mJ} (h : WV S I L) : Two 133 246 [.ref 7] [.ref 384] S I L := by
  obtain ⟨G, sl, P, v, r, H, dp, Q, hd, T, nt, tp, fp, Bt, ⟨zc, xc, rc⟩, zm, xm, rm⟩ := h
  exact ask G sl zc xc rc zm xm rm (c_fewest 52 G zc.1 zc.2.1 zc.2.2.1 ) (fun J z x => q_fewest 51 G z.1 z.2.1 z.2.2.1 z.2.2.2.1 )
theorem t_waits {S : mS} {I : mI} {L : mJ} (h : WV S I L) (y1 y2 y3 : Int32) : Two 134 247 [.ref 7, .int y1, .int y2, .int y3] [.ref 384, .int y1, .int y2, .int y3] S I L := by
  obtain ⟨G, sl, P, v, r, H, dp, Q, hd, T, nt, tp, fp, Bt, ⟨zc, xc, rc⟩, zm, xm, rm⟩ := h
  exact ask G sl zc xc rc zm xm rm (c_waits 53 G zc.1 zc.2.1 zc.2.2.1 y1 y2 y3) (fun J z x => q_waits 53 G z.1 z.2.1 z.2.2.1 z.2.2.2.1 y1 y2 y3)
theorem t_then {S : mS} {I : mI} {L : mJ} (h : WV S I L) (y1 y2 y3 : Int32) : Two 135 249 [.ref 7, .int y1, .int y2, .int y3] [.ref 384, .int y1, .int y2, .int y3] S I L := by
  obtain ⟨G, sl, P, v, r, H, dp, Q, hd, T, nt, tp, fp, Bt, ⟨zc, xc, rc⟩, zm, xm, rm⟩ := h
  exact ask G sl zc xc rc zm xm rm (c_then 52 G zc.1 zc.2.1 zc.2.2.1 y1 y2 y3) (fun J z x => q_then 53 G z.1 z.2.1 z.2.2.1 z.2.2.2.1 y1 y2 y3)
theorem t_earns {S : mS} {I : mI} {L : mJ} (h : WV S I L) (y1 : Int32) : Two 136 250 [.ref 7, .int y1] [.ref 384, .int y1] S I L := by
  obtain ⟨G, sl, P, v, r, H, dp, Q, hd, T, nt, tp, fp, Bt, ⟨zc, xc, rc⟩, zm, xm, rm⟩ := h
  exact ask G sl zc xc rc zm xm rm (c_earns 52 G zc.1 zc.2.1 zc.2.2.1 y1) (fun J z x => q_earns 53 G z.1 z.2.1 z.2.2.1 z.2.2.2.1 y1)
theorem t_year {S : mS} {I : mI} {L : mJ} (h : WV S I L) (y1 y2 y3 : Int32) : Two 137 251 [.ref 7, .int y1, .int y2, .int y3] [.ref 384, .int y1, .int y2, .int y3] S I L := by
  obtain ⟨G, sl, P, v, r, H, dp, Q, hd, T, nt, tp, fp, Bt, ⟨zc, xc, rc⟩, zm, xm, rm⟩ := h
  exact ask G sl zc xc rc zm xm rm (c_year 52 G zc.1 zc.2.1 zc.2.2.1 y1 y2 y3) (fun J z x => q_year 53 G z.1 z.2.1 z.2.2.1 z.2.2.2.1 y1 y2 y3)
theorem t_pulls {S : mS} {I : mI} {L : mJ} (h : WV S I L) (y1 y2 : Int32) : Two 140 257 [.ref 7, .int y1, .int y2] [.ref 384, .int y1, .int y2] S I L := by
  obtain ⟨G, sl, P, v, r, H, dp, Q, hd, T, nt, tp, fp, Bt, ⟨zc, xc, rc⟩, zm, xm, rm⟩ := h
  exact ask G sl zc xc rc zm xm rm (c_pulls 53 G zc.1 zc.2.1 zc.2.2.1 zc.2.2.2.2.2.1 zc.2.2.2.2.2.2 y1 y2) (fun J z x => q_pulls 53 G z.1 z.2.2.1 z.2.2.2.1 z.2.2.2.2.2.2.1 z.2.2.2.2.2.2.2.1 y1 y2)
theorem t_sure {S : mS} {I : mI} {L : mJ} (h : WV S I L) (y1 : Int32) : Two 141 258 [.ref 7, .int y1] [.ref 384, .int y1] S I L := by
  obtain ⟨G, sl, P, v, r, H, dp, Q, hd, T, nt, tp, fp, Bt, ⟨zc, xc, rc⟩, zm, xm, rm⟩ := h
  exact ask G sl zc xc rc zm xm rm (c_sure 53 G zc.1 zc.2.1 zc.2.2.1 zc.2.2.2.2.2.1 zc.2.2.2.2.2.2 y1) (fun J z x => q_sure 53 G z.1 z.2.2.1 z.2.2.2.1 z.2.2.2.2.2.2.1 z.2.2.2.2.2.2.2.1 y1)
theorem t_count {S : mS} {I : mI} {L : mJ} (h : WV S I L) (y1 : Int32) : Two 144 261 [.ref 7, .int y1] [.ref 384, .int y1] S I L := by
  obtain ⟨G, sl, P, v, r, H, dp, Q, hd, T, nt, tp, fp, Bt, ⟨zc, xc, rc⟩, zm, xm, rm⟩ := h
  exact ask G sl zc xc rc zm xm rm ⟨I, c_count 56 G zc xc y1, Fi.rf⟩ (fun J z x => q_count 56 G z x y1)
theorem t_tie {S : mS} {I : mI} {L : mJ} (h : WV S I L) (y1 y2 : Int32) : Two 122 226 [.ref 7, .int y1, .int y2] [.ref 384, .int y1, .int y2] S I L := by
  obtain ⟨G, sl, P, v, r, H, dp, Q, hd, T, nt, tp, fp, Bt, ⟨zc, xc, rc⟩, zm, xm, rm⟩ := h
  exact chg _ G sl zc xc rc zm xm rm (c_tie 54 G zc y1 y2) (fun J z => q_tie 54 G z y1 y2) (fun a j q => by unfold chA jk paA at q; omega) (fun a j q => by unfold chM mj at q; omega)
theorem t_move {S : mS} {I : mI} {L : mJ} (h : WV S I L) (y1 y2 : Int32) : Two 123 227 [.ref 7, .int y1, .int y2] [.ref 384, .int y1, .int y2] S I L := by
  obtain ⟨G, sl, P, v, r, H, dp, Q, hd, T, nt, tp, fp, Bt, ⟨zc, xc, rc⟩, zm, xm, rm⟩ := h
  exact chg _ G sl zc xc rc zm xm rm (c_move 54 G zc y1 y2) (fun J z => q_move 54 G z y1 y2) (fun a j q => by unfold chA jk paA at q; omega) (fun a j q => by unfold chM mj at q; omega)
theorem t_patch {S : mS} {I : mI} {L : mJ} (h : WV S I L) (y1 y2 : Int32) : Two 124 228 [.ref 7, .int y1, .int y2] [.ref 384, .int y1, .int y2] S I L := by
  obtain ⟨G, sl, P, v, r, H, dp, Q, hd, T, nt, tp, fp, Bt, ⟨zc, xc, rc⟩, zm, xm, rm⟩ := h
  exact chg _ G sl zc xc rc zm xm rm (c_patch 54 G zc y1 y2) (fun J z => q_patch 54 G z y1 y2) (fun a j q => by unfold chA jk paA at q; omega) (fun a j q => by unfold chM mj at q; omega)
theorem t_hours {S : mS} {I : mI} {L : mJ} (h : WV S I L) (y1 : Int32) : Two 125 229 [.ref 7, .int y1] [.ref 384, .int y1] S I L := by
  obtain ⟨G, sl, P, v, r, H, dp, Q, hd, T, nt, tp, fp, Bt, ⟨zc, xc, rc⟩, zm, xm, rm⟩ := h
  exact chg _ G sl zc xc rc zm xm rm (c_hours 53 G zc y1) (fun J z => q_hours 53 G z y1) (fun a j q => by unfold chA jk paA at q; omega) (fun a j q => by unfold chM mj at q; omega)
theorem t_undo {S : mS} {I : mI} {L : mJ} (h : WV S I L) : Two 126 230 [.ref 7] [.ref 384] S I L := by
  obtain ⟨G, sl, P, v, r, H, dp, Q, hd, T, nt, tp, fp, Bt, ⟨zc, xc, rc⟩, zm, xm, rm⟩ := h
  exact chg _ G sl zc xc rc zm xm rm (c_undo 55 G zc ) (fun J z => q_undo 59 G z ) (fun a j q => by unfold chA jk paA at q; omega) (fun a j q => by unfold chM mj at q; omega)
theorem t_hold {S : mS} {I : mI} {L : mJ} (h : WV S I L) (y1 : Int32) : Two 142 259 [.ref 7, .int y1] [.ref 384, .int y1] S I L := by
  obtain ⟨G, sl, P, v, r, H, dp, Q, hd, T, nt, tp, fp, Bt, ⟨zc, xc, rc⟩, zm, xm, rm⟩ := h
  exact chg _ G sl zc xc rc zm xm rm (c_hold 55 G zc y1) (fun J z => q_hold 58 G z y1) (fun a j q => by omega) (fun a j q => by omega)
theorem t_restore {S : mS} {I : mI} {L : mJ} (h : WV S I L) (y1 : Int32) : Two 143 260 [.ref 7, .int y1] [.ref 384, .int y1] S I L := by
  obtain ⟨G, sl, P, v, r, H, dp, Q, hd, T, nt, tp, fp, Bt, ⟨zc, xc, rc⟩, zm, xm, rm⟩ := h
  exact chg _ G sl zc xc rc zm xm rm (c_restore 55 G zc y1) (fun J z => q_restore 58 G z y1) (fun a j q => by unfold chA jk paA at q; omega) (fun a j q => by unfold chM mj at q; omega)
theorem t_tell {S : mS} {I : mI} {L : mJ} (h : WV S I L) (y1 y2 y3 y4 y5 : Int32) : Two 138 253 [.ref 7, .int y1, .int y2, .int y3, .int y4, .int y5] [.ref 384, .int y1, .int y2, .int y3, .int y4, .int y5] S I L := by
  obtain ⟨G, sl, P, v, r, H, dp, Q, hd, T, nt, tp, fp, Bt, ⟨zc, xc, rc⟩, zm, xm, rm⟩ := h
  exact chg _ G sl zc xc rc zm xm rm (c_tell 56 G zc y1 y2 y3 y4 y5) (fun J z => q_tell 56 G z y1 y2 y3 y4 y5) (fun a j q => by omega) (fun a j q => by unfold tmA at q; omega)
theorem t_forget {S : mS} {I : mI} {L : mJ} (h : WV S I L) : Two 139 254 [.ref 7] [.ref 384] S I L := by
  obtain ⟨G, sl, P, v, r, H, dp, Q, hd, T, nt, tp, fp, Bt, ⟨zc, xc, rc⟩, zm, xm, rm⟩ := h
  exact chg True (dc := instDecidableTrue) (r1 := r) (H1 := H) (dp1 := dp) (Q1 := Q) (hd1 := hd) (T1 := T) (nt1 := 0) (r2 := r) (H2 := H) (dp2 := dp) (Q2 := Q) (hd2 := hd) (T2 := T) (nt2 := nt) G sl zc xc rc zm xm rm (by obtain ⟨J, e, z, f⟩ := c_forget 57 G zc; exact ⟨J, e, by rw [if_pos trivial]; exact z, f⟩) (fun J z => by obtain ⟨N, e, z, f⟩ := q_forgetZ 59 G z; exact ⟨N, e, by rw [if_pos trivial]; exact z, f⟩) (fun a j q => by omega) (fun a j q => by unfold tmA at q; omega)
theorem t_feed {S : mS} {I : mI} {L : mJ} (h : WV S I L) (y1 y2 y3 y4 y5 : Int32) : Two 113 156 [.ref 7, .int y1, .int y2, .int y3, .int y4, .int y5] [.ref 384, .int y1, .int y2, .int y3, .int y4, .int y5] S I L := by
  obtain ⟨G, sl, P, v, r, H, dp, Q, hd, T, nt, tp, fp, Bt, ⟨zc, xc, rc⟩, zm, xm, rm⟩ := h
  exact tap _ G sl zc xc rc zm xm rm (c_feed 58 G xc y1 y2 y3 y4 y5) (fun J x => q_feed 58 G x y1 y2 y3 y4 y5)
theorem t_back {S : mS} {I : mI} {L : mJ} (h : WV S I L) (y1 : Int32) : Two 114 158 [.ref 7, .int y1] [.ref 384, .int y1] S I L := by
  obtain ⟨G, sl, P, v, r, H, dp, Q, hd, T, nt, tp, fp, Bt, ⟨zc, xc, rc⟩, zm, xm, rm⟩ := h
  exact tap _ G sl zc xc rc zm xm rm (c_back 58 G xc y1) (fun J x => q_back 58 G x y1)
