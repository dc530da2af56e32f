/-! tie, move, patch, hours, undo, hold, restore: class side -/
def aTie (P : mP) (r : mW) (i k : Int32) : Int32 := if (inN i (nLo P) && inN k (nSi P)) = true then (if rdy P r i k = true then lawT P (r 55) (nI (soN P r (nI 1))) (nI (soN P r (nI 2))) (sta P (30 + k.toInt.toNat)) (sta P (10 + i.toInt.toNat)) else -2) else -1
def tieZ (P : mP) (r : mW) (i k : Int32) : mW := ur (tieR r i.toInt.toNat k.toInt.toNat) 57 (r 57 + aTie P r i k)
theorem c_tie (d : Nat) {S : mS} {I : mI} {L : mJ} {P : mP} {r : mW} {H : Nat → mW} {dp : Nat} {Q : Nat → mW} {hd : Nat → Bool} {T : Nat → Nat → Int32} {nt : Nat} (G : Gd S) (z : ZC S I P r H dp Q hd T nt) (i k : Int32) : ∃ J, evM zcod (d + 6) 122 [.ref 7, .int i, .int k] (S, I, L) = some (some (.int (aTie P r i k)), (S, J, L)) ∧ (if rdy P r i k = true then ZC S J P (tieZ P r i k) (pu r H) (min (dp + 1) 40) Q hd T nt else ZC S J P r H dp Q hd T nt) ∧ Fi chA I J := by
  have z' := z
  obtain ⟨hv, hr, h, hp, -⟩ := z'
  rw [E_X11_tie]
  simp only [B_X11_tie_0, B_X11_tie_11, g7 G, gSt G is39, if_true, c_isPair _ G hv h, s_isReady _ G is39 hv h.1, bI_eq]
  cases c1 : inN i (nLo P) && inN k (nSi P)
  · have n : rdy P r i k = false := by
      cases c : rdy P r i k
      · rfl
      · obtain ⟨a, b, ha, hb, rfl, rfl⟩ := rdy_in c
        rw [inN_nI (by have := hv.1; omega), inN_nI (by have := hv.2.1; omega), decide_eq_true ha, decide_eq_true hb] at c1
        cases c1
    have ea : aTie P r i k = -1 := by
      unfold aTie
      rw [c1]
      rfl
    simp only [n, Bool.false_eq_true, if_false, not_true_eq_false, ea]
    exact ⟨I, rfl, z, Fi.rf⟩
  · cases c4 : rdy P r i k
    · have ea : aTie P r i k = -2 := by
        unfold aTie
        rw [c1, c4]
        rfl
      simp only [Bool.false_eq_true, if_false, not_true_eq_false, ea, if_true, n10, not_false_eq_true]
      exact ⟨I, rfl, z, Fi.rf⟩
    · obtain ⟨a, b, ha, hb, rfl, rfl⟩ := rdy_in c4
      have v := hv
      obtain ⟨v1, v2, -⟩ := v
      have ea : aTie P r (nI a) (nI b) = lawT P (r 55) (nI (soN P r (nI 1))) (nI (soN P r (nI 2))) (sta P (30 + b)) (sta P (10 + a)) := by
        unfold aTie
        rw [c1, c4, if_pos rfl, if_pos rfl, t_nI (by omega), t_nI (by omega), Int.toNat_natCast, Int.toNat_natCast]
      have e7 : r (7 + a) = nI 0 ∧ r (35 + b) = -2 := by
        unfold rdy ftL ftS at c4
        simp only [Bool.and_eq_true, decide_eq_true_eq, t_nI (show a < 2147483648 by omega), t_nI (show b < 2147483648 by omega), Int.toNat_natCast] at c4
        exact ⟨c4.1.2, c4.2.2⟩
      obtain ⟨J1, e1, p1, f1⟩ := s_keep (d + 1) (L := L) G is39 (by omega) hv h.1 hr hp
      have c1' : CS J1 39 P r := h.1.congI fun x j q1 q2 => f1 x j (by unfold paA; omega)
      have hJ1 : CC S J1 P r := h.ch c1' (f1.up fun x j q => Or.inr (Or.inr q))
      let J2 := skB J1 (r 55) (nI (soN P r (nI 1))) (nI (soN P r (nI 2)))
      have f2 : Fi (fun a _ => a = 54) J1 J2 := Fi.u (Fi.u (Fi.u (Fi.u Fi.rf rfl) rfl) rfl) rfl
      have c2 : CS J2 39 P r := c1'.congI fun x j q1 q2 => f2 x j (by omega)
      have B : Begun J2 (r 55) (nI (soN P r (nI 1))) (nI (soN P r (nI 2))) := by
        refine ⟨?_, ?_, ?_, ?_⟩ <;> simp [J2, skB, uI_at]
      have hJ2 : CC S J2 P r := hJ1.fi (f2.up fun x j q => by unfold jk; omega)
      obtain ⟨J3, e3, f3⟩ := s_ties (d + 2) (L := L) G hJ2.2.1 B (sta P (30 + b)) (sta P (10 + a))
      have c3 : CS J3 39 P r := c2.sk f3 (by omega)
      obtain ⟨J4, e4, c4', f4⟩ := s_letGo (d + 3) (L := L) G hv c3 ha hb
      have t57 : J4 39 5 = r 57 := c4'.ti.2.2.trans (by
        unfold tieR
        rw [ur_n (by omega), ur_n (by omega), ur_n (by omega), ur_n (by omega), ur_n (by omega)])
      have c5 := c4'.t5 hv (r 57 + aTie P r (nI a) (nI b))
      have eR : tieZ P r (nI a) (nI b) = ur (tieR r a b) 57 (r 57 + aTie P r (nI a) (nI b)) := by
        unfold tieZ
        rw [t_nI (by omega), t_nI (by omega), Int.toNat_natCast, Int.toNat_natCast]
      have f5 : Fi chA I (uI J4 39 5 (r 57 + aTie P r (nI a) (nI b))) := Fi.u (A := chA) (((f1.up fun x j q => Or.inr (Or.inr q)).tr (f2.up fun x j q => Or.inr (Or.inl (by unfold jk; omega)))).tr ((f3.up fun x j q => Or.inr (Or.inl (by unfold skA at q; unfold jk; omega))).tr (f4.up fun x j q => Or.inl (by omega)))) (Or.inl (by omega))
      have p5 : PH (uI J4 39 5 (r 57 + aTie P r (nI a) (nI b))) P (pu r H) (min (dp + 1) 40) := p1.cg (fun x j q1 q2 => (uI_off (by omega)).trans ((f4 x j (by omega)).trans ((f3 x j (by unfold skA; omega)).trans (f2 x j (by omega))))) ((uI_off (by omega)).trans ((f4 _ _ (by omega)).trans ((f3 _ _ (by unfold skA; omega)).trans (f2 _ _ (by omega))))) ((uI_off (by omega)).trans ((f4 _ _ (by omega)).trans ((f3 _ _ (by unfold skA; omega)).trans (f2 _ _ (by omega)))))
      have T3 := c3.ts G is39 hv
      simp only [if_true, n10, not_false_eq_true]
      refine ⟨_, ?_, ?_, f5⟩
      · rw [B_X11_tie_26]
        simp only [g7 G, gSt G is39, if_true, e1, bV_eq, s_up _ G is39 hv c1', s_stored _ G is39 hv c1', bI_eq, c1'.ti]
        rw [s_begin _ G]
        simp only [bV_eq, if_true, B_X11_tie_65, g7 G, gSt G is39]
        rw [s_atN _ (c2.ts G is39 hv) hb (show 0 < 4 by omega)]
        simp only [bI_eq, if_true, g7 G, gSt G is39]
        rw [s_atN _ (c2.tl G is39 hv) ha (show 1 < 7 by omega)]
        simp only [bI_eq, if_true, g7 G, gSt G is39, c2.lo ha, c2.si hb]
        have c2l := c2.lo ha
        have c2s := c2.si hb
        simp only [J2] at c2l c2s
        simp only [c2l, c2s, e3, bI_eq, if_true, g7 G, gSt G is39, e4, bV_eq, B_X11_tie_106, t57, ea]
      · rw [eR]
        exact z.ch ((hr.tie hv ha hb e7.1 e7.2).un hv (Or.inr (by omega)) _) c5 p5 f5
def mvOk (P : mP) (r : mW) (h x : Int32) : Bool := inN h (nHo P) && okI x (nI 0) (nI 19) && !decide (r (50 + h.toInt.toNat) = x)
theorem c_move (d : Nat) {S : mS} {I : mI} {L : mJ} {P : mP} {r : mW} {H : Nat → mW} {dp : Nat} {Q : Nat → mW} {hd : Nat → Bool} {T : Nat → Nat → Int32} {nt : Nat} (G : Gd S) (z : ZC S I P r H dp Q hd T nt) (k x : Int32) : ∃ J, evM zcod (d + 6) 123 [.ref 7, .int k, .int x] (S, I, L) = some (some (.int (if mvOk P r k x = true then nI 1 else nI 0)), (S, J, L)) ∧ (if mvOk P r k x = true then ZC S J P (ur r (50 + k.toInt.toNat) x) (pu r H) (min (dp + 1) 40) Q hd T nt else ZC S J P r H dp Q hd T nt) ∧ Fi chA I J := by
  have z' := z
  obtain ⟨hv, hr, h, hp, -⟩ := z'
  have v3 := hv.2.2.1
  rw [E_X11_move]
  simp only [B_X11_move_0, B_X11_move_40, g7 G, gSt G is39, if_true, s_has _ (h.1.th G is39 hv), w_in, bI_eq]
  unfold mvOk
  cases c1 : inN k (nHo P)
  · simp only [Bool.false_eq_true, if_false, if_true, Bool.false_and]
    exact ⟨I, rfl, z, Fi.rf⟩
  · cases c2 : okI x (nI 0) (nI 19)
    · simp only [Bool.false_eq_true, if_false, if_true, Bool.false_and, Bool.and_false, n10]
      exact ⟨I, rfl, z, Fi.rf⟩
    · obtain ⟨b, hb, rfl⟩ := inN_of c1
      simp only [if_true, n10, if_false, Bool.true_and, t_nI (show b < 2147483648 by omega), Int.toNat_natCast]
      rw [s_atN _ (h.1.th G is39 hv) hb (show 0 < 4 by omega)]
      simp only [bI_eq, if_true, h.1.ho hb]
      by_cases c3 : r (50 + b) = x
      · rw [if_neg (fun q => q c3), decide_eq_true c3]
        exact ⟨I, by rw [B_X11_move_40]; rfl, z, Fi.rf⟩
      · rw [if_pos c3, decide_eq_false c3]
        simp only [Bool.not_false, if_true]
        obtain ⟨u, hu, rfl⟩ := okI_n c2 (by omega)
        obtain ⟨J1, e1, p1, f1⟩ := s_keep (d + 1) (L := L) G is39 (by omega) hv h.1 hr hp
        have c1' : CS J1 39 P r := h.1.congI fun x j q1 q2 => f1 x j (by unfold paA; omega)
        have c5 := c1'.h0 hv hb (nI u)
        have f5 : Fi chA I (uI J1 45 (b * 4 + 0) (nI u)) := Fi.u (A := chA) (f1.up fun x j q => Or.inr (Or.inr q)) (Or.inl (by omega))
        refine ⟨_, ?_, z.ch (hr.move hv hb (by rw [t_nI (by omega)]; omega)) c5 (p1.cg (fun x j q1 q2 => uI_off (by omega)) (uI_off (by omega)) (uI_off (by omega))) f5, f5⟩
        rw [B_X11_move_42]
        simp only [g7 G, gSt G is39, if_true, e1, bV_eq]
        rw [s_putN _ (c1'.th G is39 hv) hb (show 0 < 4 by omega)]
        simp only [bV_eq, if_true]
