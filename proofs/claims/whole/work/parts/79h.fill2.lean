/-! what fills the barn most: what the class answers -/
def fbF (g nx : Nat → Int32) (tgt : Int32) (gone : Nat) : Nat → Nat → Int32
  | 0, _ => -2
  | n + 1, b => if sbS g nx b gone = tgt then nI b else fbF g nx tgt gone n (b + 1)
def fbS (P : mP) (r : mW) (a gone : Nat) : Int32 := fbF (gnS P r a) (bsS P r (6 - a)) (bsS P r (7 - a) gone) gone 5 0
theorem fbF_or (g nx : Nat → Int32) (tgt : Int32) (gone : Nat) : ∀ n b, fbF g nx tgt gone n b = -2 ∨ ∃ x, x < n + b ∧ fbF g nx tgt gone n b = nI x
  | 0, b => Or.inl rfl
  | n + 1, b => by
    unfold fbF
    split
    · exact Or.inr ⟨b, by omega, rfl⟩
    · rcases fbF_or g nx tgt gone n (b + 1) with h | ⟨x, h1, h2⟩
      · exact Or.inl h
      · exact Or.inr ⟨x, by omega, h2⟩
theorem fbS_or (P : mP) (r : mW) (a gone : Nat) : fbS P r a gone = -2 ∨ ∃ x, x < 5 ∧ fbS P r a gone = nI x := by
  rcases fbF_or (gnS P r a) (bsS P r (6 - a)) (bsS P r (7 - a) gone) gone 5 0 with h | ⟨x, h1, h2⟩
  · exact Or.inl h
  · exact Or.inr ⟨x, by omega, h2⟩
/-- the silks gone before a load -/
def goN (P : mP) (r : mW) : Nat → Nat
  | 0 => 0
  | i + 1 => if fbS P r i (goN P r i) < nI 0 then goN P r i else goN P r i ||| 2 ^ (fbS P r i (goN P r i)).toInt.toNat
theorem goN_s {P : mP} {r : mW} {i : Nat} : goN P r (i + 1) = if fbS P r i (goN P r i) < nI 0 then goN P r i else goN P r i ||| 2 ^ (fbS P r i (goN P r i)).toInt.toNat := rfl
theorem goN_lt {P : mP} {r : mW} : ∀ i, goN P r i < 32
  | 0 => by unfold goN; omega
  | i + 1 => by
    rw [goN_s]
    rcases fbS_or P r i (goN P r i) with h | ⟨x, h1, h2⟩
    · rw [h, if_pos (by decide +kernel)]
      exact goN_lt i
    · rw [h2, if_neg (n_pos (n := x) (by omega)), t_nI (by omega), Int.toNat_natCast]
      exact (or_n _ (goN_lt i) x h1).2
theorem s_firstBest (d : Nat) {S : mS} {I : mI} {L : mJ} {P : mP} {r : mW} (G : Gd S) (hg : GA I P r 7 0) (hb : BA I P r 8) {a gone : Nat} (ha : a < 7) (hq : gone < 32) : evM zcod (d + 2) 99 [.ref 59, .int (nI a), .int (nI gone)] (S, I, L) = some (some (.int (fbS P r a gone)), (S, I, L)) := by
  have g2 := gF69 G (a := a) (by omega)
  have hz2 : zin (nI a) 8 = True := ixT (by omega) (by omega)
  have hz3 : zin (nI gone) 32 = True := ixT (by omega) (by omega)
  have b0 := hb (7 - a) (by omega) gone hq
  rw [show 69 + (7 - (7 - a)) = 69 + a by omega] at b0
  have hn : ∀ s, s < 32 → I (69 + (a + 1)) s = bsS P r (6 - a) s := fun s hs => by
    have := hb (6 - a) (by omega) s hs
    rw [show 69 + (7 - (6 - a)) = 69 + (a + 1) by omega] at this
    exact this
  have key : ∀ n b, n + b = 5 → evk zcod none (d + 1) zc_X2_firstBest 2 [(0, .ref 59), (1, .int (nI a)), (2, .int (nI gone)), (3, .int (nI b))] [] (S, I, L) = some (some (.int (fbF (gnS P r a) (bsS P r (6 - a)) (bsS P r (7 - a) gone) gone n b)), (S, I, L)) := by
    intro n
    induction n with
    | zero =>
      intro b hb
      rw [B_X2_firstBest_2, if_pos (nI_le (by omega) (by omega)), B_X2_firstBest_33]
      rfl
    | succ n ih =>
      intro b hb
      rw [B_X2_firstBest_2, if_neg (nI_ge (by omega) (by omega))]
      simp only [gFi G, if_true, true_and, s_sumBy _ G hg (show a + (6 - a) = 6 by omega) (show b < 5 by omega) hq hn, bI_eq, hz2, hz3, ixI (show a < 2147483648 by omega), ixI (show gone < 2147483648 by omega), g2, b0, B_X2_firstBest_27, nI_add]
      unfold fbF
      by_cases c : sbS (gnS P r a) (bsS P r (6 - a)) b gone = bsS P r (7 - a) gone
      · rw [if_neg (fun q => q c), if_pos c]
      · rw [if_pos c, if_neg c]
        exact ih (b + 1) (by omega)
  rw [E_X2_firstBest, B_X2_firstBest_0]
  exact key 5 0 (by omega)
theorem s_silkOf (d : Nat) {S : mS} {I : mI} {L : mJ} {P : mP} {r : mW} (G : Gd S) (hg : GA I P r 7 0) (hb : BA I P r 8) {a : Nat} (ha : a < 7) : evM zcod (d + 3) 98 [.ref 59, .int (nI a)] (S, I, L) = some (some (.int (fbS P r a (goN P r a))), (S, I, L)) := by
  have key : ∀ n i, n + i = a + 1 → ∀ sil, (i = a + 1 → sil = fbS P r a (goN P r a)) → evk zcod none (d + 2) zc_X2_silkOf 8 [(0, .ref 59), (1, .int (nI a)), (2, .int (nI (goN P r i))), (3, .int sil), (4, .int (nI i))] [] (S, I, L) = some (some (.int (fbS P r a (goN P r a))), (S, I, L)) := by
    intro n
    induction n with
    | zero =>
      intro i hi sil hs
      rw [B_X2_silkOf_8, if_pos (nI_lt (by omega) (by omega)), B_X2_silkOf_45, hs (by omega)]
    | succ n ih =>
      intro i hi sil hs
      have nx := ih (i + 1) (by omega) (fbS P r i (goN P r i)) (fun q => by rw [show i = a by omega])
      rw [goN_s] at nx
      rw [B_X2_silkOf_8, if_neg (nI_nlt (by omega) (by omega)), if_neg (nI_ge (by omega) (by omega))]
      simp only [gFi G, if_true, s_firstBest _ G hg hb (show i < 7 by omega) (goN_lt i), bI_eq, B_X2_silkOf_39, nI_add]
      rcases fbS_or P r i (goN P r i) with h | ⟨x, h1, h2⟩
      · rw [h] at nx ⊢
        rw [if_pos (by decide +kernel)] at nx ⊢
        exact nx
      · rw [h2] at nx ⊢
        rw [if_neg (n_pos (n := x) (by omega)), t_nI (by omega), Int.toNat_natCast] at nx
        rw [if_neg (n_pos (n := x) (by omega)), (or_n _ (goN_lt i) x h1).1]
        exact nx
  rw [E_X2_silkOf, B_X2_silkOf_0]
  exact key (a + 1) 0 (by omega) (-2) (fun q => by omega)
def aFill (P : mP) (r : mW) (x : Int32) : Int32 := if x = -1 then bsS P r 7 0 else if inN x (nLo P) = true then fbS P r x.toInt.toNat (goN P r x.toInt.toNat) else Int32.ofNat 4294867296
theorem s_most (d : Nat) {S : mS} {I : mI} {L : mJ} {P : mP} {r : mW} (G : Gd S) (hb : BA I P r 8) : evM zcod (d + 1) 97 [.ref 59] (S, I, L) = some (some (.int (bsS P r 7 0)), (S, I, L)) := by
  have g2 := gF69 G (a := 0) (by omega)
  have hz2 : zin (nI 0) 8 = True := ixT (by omega) (by omega)
  have hz3 : zin (nI 0) 32 = True := ixT (by omega) (by omega)
  have b0 : I 69 0 = bsS P r 7 0 := hb 7 (by omega) 0 (by omega)
  rw [E_X2_most]
  simp only [B_X2_most_0, gFi G, if_true, true_and, hz2, hz3, ixI (show 0 < 2147483648 by omega), b0]
theorem c_fill (d : Nat) {S : mS} {I : mI} {L : mJ} {P : mP} {r : mW} (G : Gd S) (hv : PV P) (hr : RV P r) (h : CC S I P r) (x : Int32) : ∃ J, evM zcod (d + 8) 132 [.ref 7, .int x] (S, I, L) = some (some (.int (aFill P r x)), (S, J, L)) ∧ Fi jk I J := by
  have v1 := hv.1
  obtain ⟨J, e, hg, hb, f⟩ := s_weigh d (L := L) G hv hr h
  rw [E_X11_fill]
  simp only [B_X11_fill_0, g7 G, gSt G is39, if_true, s_has _ (h.1.tl G is39 hv), bI_eq]
  unfold aFill
  by_cases c : x = -1
  · rw [if_pos c, if_pos c, B_X11_fill_22]
    simp only [g7 G, if_true, e, bV_eq]
    rw [if_neg (fun q => q c)]
    simp only [s_most _ G hb, bI_eq, if_true, B_X11_fill_52]
    exact ⟨J, rfl, f⟩
  · rw [if_neg c, if_neg c]
    cases c2 : inN x (nLo P)
    · simp only [Bool.false_eq_true, if_false, not_true_eq_false]
      exact ⟨I, rfl, Fi.rf⟩
    · obtain ⟨a, ha, rfl⟩ := inN_of c2
      simp only [if_true, n10, not_false_eq_true]
      rw [B_X11_fill_22]
      simp only [g7 G, if_true, e, bV_eq]
      rw [if_pos c, B_X11_fill_44]
      simp only [g7 G, if_true, s_silkOf _ G hg hb (show a < 7 by omega), bI_eq, B_X11_fill_52, t_nI (show a < 2147483648 by omega), Int.toNat_natCast]
      exact ⟨J, rfl, f⟩
