/-! told, counted: class side -/
theorem okI_19 {x : Int32} (h : okI x (nI 1) (nI 9) = true) : ∃ m, m ≤ 9 ∧ x = nI m := by
  unfold okI at h
  have h := of_decide_eq_true h
  rw [i_le, i_le, t_nI (by omega), t_nI (by omega)] at h
  obtain ⟨k, hk, e⟩ := i_of2 (n := 10) (by omega : 0 ≤ x.toInt) (by omega)
  exact ⟨k, by omega, e⟩
theorem ZC.tl {S : mS} {I J : mI} {P : mP} {r : mW} {H : Nat → mW} {dp : Nat} {Q : Nat → mW} {hd : Nat → Bool} {T T' : Nat → Nat → Int32} {nt nt' : Nat} (h : ZC S I P r H dp Q hd T nt) (t : TV T' nt') (c : TC S J T' nt') (f : Fi (fun a _ => a = 382 ∨ a = 383) I J) : ZC S J P r H dp Q hd T' nt' := by
  obtain ⟨h1, h2, ⟨c1, c2, c3, c4, c5, c6⟩, h4, h5, h6, h7⟩ := h
  have e : ∀ a, a < 382 → J a = I a := fun a q => f.row a fun j => by omega
  refine ⟨h1, h2, ⟨c1.congI fun x j p q => f x j (by omega), c2.fi (e 17 (by omega)) (e 18 (by omega)) (e 19 (by omega)), ?_, ?_, ?_, c6.cg fun x j p q => f x j (by omega)⟩, h4.cg (fun x j q _ => f x j (by omega)) (f _ _ (by omega)) (f _ _ (by omega)), h5.cg (fun x j q _ => f x j (by omega)) (f _ _ (by omega)), t, c⟩
  · rw [e 9 (by omega)]; exact c3
  · rw [e 9 (by omega)]; exact c4
  · rw [e 9 (by omega)]; exact c5
theorem c_tell (d : Nat) {S : mS} {I : mI} {L : mJ} {P : mP} {r : mW} {H : Nat → mW} {dp : Nat} {Q : Nat → mW} {hd : Nat → Bool} {T : Nat → Nat → Int32} {nt : Nat} (G : Gd S) (z : ZC S I P r H dp Q hd T nt) (w s x h y : Int32) : ∃ J, evM zcod (d + 4) 138 [.ref 7, .int w, .int s, .int x, .int h, .int y] (S, I, L) = some (some (.int (if teOk w s x h y nt = true then nI nt else -1)), (S, J, L)) ∧ (if teOk w s x h y nt = true then ZC S J P r H dp Q hd (teT T nt w s x h y) (nt + 1) else ZC S J P r H dp Q hd T nt) ∧ Fi (fun a _ => a = 382 ∨ a = 383) I J := by
  have z' := z
  obtain ⟨hv, hr, hC, hp, hs, hV, hT⟩ := z'
  have g := g7 G
  have no : evk zcod none (d + 3) zc_X11_tell 57 [(0, .ref 7), (1, .int w), (2, .int s), (3, .int x), (4, .int h), (5, .int y)] [.int (nI 0)] (S, I, L) = some (some (.int (-1)), (S, I, L)) := by
    rw [B_X11_tell_57, if_pos rfl, B_X11_tell_74]
  rw [E_X11_tell]
  simp only [B_X11_tell_0, B_X11_tell_41, B_X11_tell_56, w_in, bI_eq, if_true, no]
  unfold teOk
  cases c1 : okI w (nI 1) (nI 9)
  · simp only [Bool.false_eq_true, if_false, if_true, Bool.false_and]
    exact ⟨I, rfl, z, Fi.rf⟩
  cases c2 : okI s (nI 1) (nI 9)
  · simp only [Bool.false_eq_true, if_false, if_true, Bool.false_and, Bool.and_false, n10]
    exact ⟨I, rfl, z, Fi.rf⟩
  cases c3 : okI x (nI 0) (nI 19)
  · simp only [Bool.false_eq_true, if_false, if_true, Bool.false_and, Bool.and_false, n10]
    exact ⟨I, rfl, z, Fi.rf⟩
  cases c4 : okI h (nI 1) (nI 9)
  · simp only [Bool.false_eq_true, if_false, if_true, Bool.false_and, Bool.and_false, n10]
    exact ⟨I, rfl, z, Fi.rf⟩
  cases c5 : okI y (nI 0) (nI 19)
  · simp only [Bool.false_eq_true, if_false, if_true, Bool.false_and, Bool.and_false, n10]
    exact ⟨I, rfl, z, Fi.rf⟩
  simp only [if_true, n10, if_false, Bool.true_and, B_X11_tell_57, g, s_isFull _ hT.1, bI_eq, B_X11_tell_74]
  by_cases c6 : nt < 20
  · rw [if_pos c6, decide_eq_true c6]
    simp only [if_true, B_X11_tell_76, g]
    obtain ⟨J0, e0, f0, t0, b0⟩ := s_add (d + 1) (L := L) hT.1 c6 (by omega)
    let J1 := uI J0 383 (nt * 5 + 0) w
    let J2 := uI J1 383 (nt * 5 + 1) s
    let J3 := uI J2 383 (nt * 5 + 2) x
    let J4 := uI J3 383 (nt * 5 + 3) h
    let J5 := uI J4 383 (nt * 5 + 4) y
    have t1 : Tg S J1 382 383 20 5 (nt + 1) := t0.fi (uI_off (by omega)) (uI_off (by omega)) (uI_off (by omega))
    have t2 : Tg S J2 382 383 20 5 (nt + 1) := t1.fi (uI_off (by omega)) (uI_off (by omega)) (uI_off (by omega))
    have t3 : Tg S J3 382 383 20 5 (nt + 1) := t2.fi (uI_off (by omega)) (uI_off (by omega)) (uI_off (by omega))
    have t4 : Tg S J4 382 383 20 5 (nt + 1) := t3.fi (uI_off (by omega)) (uI_off (by omega)) (uI_off (by omega))
    have t5 : Tg S J5 382 383 20 5 (nt + 1) := t4.fi (uI_off (by omega)) (uI_off (by omega)) (uI_off (by omega))
    have f5 : Fi (fun a _ => a = 382 ∨ a = 383) I J5 := Fi.u (Fi.u (Fi.u (Fi.u (Fi.u (f0.up fun a j q => by omega) (Or.inr rfl)) (Or.inr rfl)) (Or.inr rfl)) (Or.inr rfl)) (Or.inr rfl)
    have p1 := s_putN (d + 2) (L := L) t0 (a := nt) (b := 0) (by omega) (by omega) w
    have p2 := s_putN (d + 2) (L := L) t1 (a := nt) (b := 1) (by omega) (by omega) s
    have p3 := s_putN (d + 2) (L := L) t2 (a := nt) (b := 2) (by omega) (by omega) x
    have p4 := s_putN (d + 2) (L := L) t3 (a := nt) (b := 3) (by omega) (by omega) h
    have p5 := s_putN (d + 2) (L := L) t4 (a := nt) (b := 4) (by omega) (by omega) y
    refine ⟨J5, ?_, z.tl ?_ ⟨t5, fun i hi c hc => ?_⟩ f5, f5⟩
    · simp only [e0, bI_eq, if_true, g]
      rw [p1]
      simp only [bV_eq, if_true, g]
      rw [p2]
      simp only [bV_eq, if_true, g]
      rw [p3]
      simp only [bV_eq, if_true, g, B_X11_tell_118]
      rw [p4]
      simp only [bV_eq, if_true, g]
      rw [p5]
      simp only [bV_eq, if_true]
      rfl
    · refine ⟨by omega, fun i hi => ?_⟩
      unfold teT
      by_cases q : i = nt
      · rw [if_pos q, if_pos q]
        obtain ⟨u, hu, rfl⟩ := okI_n c3 (by omega)
        obtain ⟨m, hm, rfl⟩ := okI_19 c4
        show (0 ≤ (nI u).toInt ∧ (nI u).toInt ≤ 19) ∧ ∃ m', m' ≤ 9 ∧ nI m = nI m'
        exact ⟨by rw [t_nI (by omega)]; omega, m, hm, rfl⟩
      · rw [if_neg q, if_neg q]
        exact hV.2 i (by omega)
    · unfold teT
      by_cases q : i = nt
      · subst q
        rw [if_pos rfl]
        match c, hc with
        | 0, _ => exact (uI_ix (by omega)).trans ((uI_ix (by omega)).trans ((uI_ix (by omega)).trans ((uI_ix (by omega)).trans (uI_same _ _ _ _))))
        | 1, _ => exact (uI_ix (by omega)).trans ((uI_ix (by omega)).trans ((uI_ix (by omega)).trans (uI_same _ _ _ _)))
        | 2, _ => exact (uI_ix (by omega)).trans ((uI_ix (by omega)).trans (uI_same _ _ _ _))
        | 3, _ => exact (uI_ix (by omega)).trans (uI_same _ _ _ _)
        | 4, _ => exact uI_same _ _ _ _
        | n + 5, k => omega
      · rw [if_neg q]
        exact (uI_ix (by omega)).trans ((uI_ix (by omega)).trans ((uI_ix (by omega)).trans ((uI_ix (by omega)).trans ((uI_ix (by omega)).trans ((f0 _ _ (by omega)).trans (hT.2 i (by omega) c hc))))))
  · rw [if_neg c6, decide_eq_false c6]
    simp only [n10, if_false, Bool.false_eq_true]
    exact ⟨I, rfl, z, Fi.rf⟩
theorem c_forget (d : Nat) {S : mS} {I : mI} {L : mJ} {P : mP} {r : mW} {H : Nat → mW} {dp : Nat} {Q : Nat → mW} {hd : Nat → Bool} {T : Nat → Nat → Int32} {nt : Nat} (G : Gd S) (z : ZC S I P r H dp Q hd T nt) : ∃ J, evM zcod (d + 3) 139 [.ref 7] (S, I, L) = some (some (.int (nI nt)), (S, J, L)) ∧ ZC S J P r H dp Q hd T 0 ∧ Fi (fun a _ => a = 382 ∨ a = 383) I J := by
  have z' := z
  obtain ⟨hv, hr, hC, hp, hs, hV, hT⟩ := z'
  have f : Fi (fun a _ => a = 382 ∨ a = 383) I (uI I 382 3 (nI 0)) := Fi.u Fi.rf (Or.inl rfl)
  refine ⟨uI I 382 3 (nI 0), ?_, z.tl ⟨by omega, fun i hi => absurd hi (Nat.not_lt_zero i)⟩ ⟨?_, fun i hi => absurd hi (Nat.not_lt_zero i)⟩ f, f⟩
  · rw [E_X11_forget]
    simp only [B_X11_forget_0, g7 G, if_true, s_size _ hT.1, bI_eq, s_clear _ (g7 G).2.2.2.2.2.2.2.2.2.2.2.2.2.2.2.2.2.2.2.2.2, bV_eq]
  · obtain ⟨h1, h2, h3, h4, h5, h6, h7, h8, h9, h10⟩ := hT.1
    exact ⟨h1, h2, h3, h4, (uI_ix (by omega)).trans h5, (uI_ix (by omega)).trans h6, uI_same _ _ _ _, by omega, h9, h10⟩
def aCount (P : mP) (r : mW) (tp dp nt : Nat) (hd : Nat → Bool) (s : Int32) : Int32 := if s = nI 0 then nI (nLo P) else if s = nI 1 then nI (nSi P) else if s = nI 2 then nI (nHo P) else if s = nI 3 then r 55 else if s = nI 4 then nI (soB P r (nI 0)) else if s = nI 5 then nI (soB P r (nI 1)) else if s = nI 6 then nI (soB P r (nI 2)) else if s = nI 7 then nI (soB P r (nI 3)) else if s = nI 8 then r 56 else if s = nI 9 then r 57 else if s = nI 10 then nI tp else if s = nI 11 then nI dp else if s = nI 12 then nI nt else if s = nI 13 then nI (cn hd 3) else if s = nI 14 then (if gustS P (sta P 2) (r 55) = true then nI 1 else nI 0) else if s = nI 15 then sta P 0 else -1
theorem c_count (d : Nat) {S : mS} {I : mI} {L : mJ} {P : mP} {r : mW} {H : Nat → mW} {dp : Nat} {Q : Nat → mW} {hd : Nat → Bool} {T : Nat → Nat → Int32} {nt tp : Nat} {fp : Int32} {B : Nat → Int32} (G : Gd S) (z : ZC S I P r H dp Q hd T nt) (hx : XC I tp fp B) (s : Int32) : evM zcod (d + 4) 144 [.ref 7, .int s] (S, I, L) = some (some (.int (aCount P r tp dp nt hd s)), (S, I, L)) := by
  have z' := z
  obtain ⟨hv, hr, hC, hp, hs, hV, hT⟩ := z'
  have g := g7 G
  have g2 := gSt G is39
  rw [E_X11_count]
  simp only [B_X11_count_0]
  unfold aCount
  by_cases c0 : s = nI 0
  · rw [if_pos c0, if_pos c0]
    simp only [B_X11_count_80, g, g2, if_true, s_size _ (hC.1.tl G is39 hv), bI_eq]
  rw [if_neg c0, if_neg c0]
  by_cases c1 : s = nI 1
  · rw [if_pos c1, if_pos c1]
    simp only [B_X11_count_91, g, g2, if_true, s_size _ (hC.1.ts G is39 hv), bI_eq]
  rw [if_neg c1, if_neg c1]
  by_cases c2 : s = nI 2
  · rw [if_pos c2, if_pos c2]
    simp only [B_X11_count_102, g, g2, if_true, s_size _ (hC.1.th G is39 hv), bI_eq]
  rw [if_neg c2, if_neg c2]
  by_cases c3 : s = nI 3
  · rw [if_pos c3, if_pos c3]
    simp only [B_X11_count_113, g, g2, if_true, hC.1.ti]
  rw [if_neg c3, if_neg c3]
  by_cases c4 : s = nI 4
  · rw [if_pos c4, if_pos c4]
    simp only [B_X11_count_121, g, g2, if_true, s_loadsThat _ G is39 hv hC.1, bI_eq]
  rw [if_neg c4, if_neg c4]
  by_cases c5 : s = nI 5
  · rw [if_pos c5, if_pos c5]
    simp only [B_X11_count_130, g, g2, if_true, s_loadsThat _ G is39 hv hC.1, bI_eq]
  rw [if_neg c5, if_neg c5]
  by_cases c6 : s = nI 6
  · rw [if_pos c6, if_pos c6]
    simp only [B_X11_count_139, g, g2, if_true, s_loadsThat _ G is39 hv hC.1, bI_eq]
  rw [if_neg c6, if_neg c6]
  by_cases c7 : s = nI 7
  · rw [if_pos c7, if_pos c7]
    simp only [B_X11_count_148, g, g2, if_true, s_loadsThat _ G is39 hv hC.1, bI_eq]
  rw [if_neg c7, if_neg c7]
  by_cases c8 : s = nI 8
  · rw [if_pos c8, if_pos c8]
    simp only [B_X11_count_157, g, g2, if_true, hC.1.ti]
  rw [if_neg c8, if_neg c8]
  by_cases c9 : s = nI 9
  · rw [if_pos c9, if_pos c9]
    simp only [B_X11_count_165, g, g2, if_true, hC.1.ti]
  rw [if_neg c9, if_neg c9]
  by_cases c10 : s = nI 10
  · rw [if_pos c10, if_pos c10]
    simp only [B_X11_count_173, g, g2, if_true, hx.2.1]
  rw [if_neg c10, if_neg c10]
  by_cases c11 : s = nI 11
  · rw [if_pos c11, if_pos c11]
    simp only [B_X11_count_178, g, g2, if_true, s_depth _ G, bI_eq, hp.2.1]
  rw [if_neg c11, if_neg c11]
  by_cases c12 : s = nI 12
  · rw [if_pos c12, if_pos c12]
    simp only [B_X11_count_186, g, g2, if_true, s_size _ hT.1, bI_eq]
  rw [if_neg c12, if_neg c12]
  by_cases c13 : s = nI 13
  · rw [if_pos c13, if_pos c13]
    simp only [B_X11_count_194, g, g2, if_true, s_held _ G hs, bI_eq]
  rw [if_neg c13, if_neg c13]
  by_cases c14 : s = nI 14
  · rw [if_pos c14, if_pos c14]
    simp only [B_X11_count_202, g, g2, if_true, hC.1.ti, hC.2.2.2.2.1, s_gust _ G hC.2.2.2.1, bI_eq, B_X11_count_230]
    cases gustS P (sta P 2) (r 55)
    · simp only [Bool.false_eq_true, if_false, if_true]
      rw [B_X11_count_231]
    · simp only [if_true, n10, if_false]
      rw [B_X11_count_231]
  rw [if_neg c14, if_neg c14]
  by_cases c15 : s = nI 15
  · rw [if_pos c15, if_pos c15]
    simp only [B_X11_count_232, g, g2, if_true, hC.2.2.1]
  rw [if_neg c15, if_neg c15]
  rw [B_X11_count_240]
