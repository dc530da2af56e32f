/-! flights of a load by a silk -/
def flyS (P : mP) (r : mW) (a k : Nat) (pl wt : Int32) : Int32 × Int32 × Int32 × Int32 × Nat := goS P r (nI (soN P r (nI 2))) (sta P (30 + k)) (sta P (10 + a)) pl (r 55 + wt) 48 0 (r a) (nI 0)
def earnS (P : mP) (r : mW) (a k : Nat) (pl wt : Int32) : Int32 := if (flyS P r a k pl wt).2.1 = nI 1 then lawP P (r 55 + wt + nI (flyS P r a k pl wt).2.2.2.2) (nI 1) (nI (soN P r (nI 2))) (sta P (20 + a)) (sta P (10 + a)) else nI 0
def flA (a _ : Nat) : Prop := a = 54 ∨ a = 55 ∨ a = 58
theorem s_fly (d : Nat) {S : mS} {I : mI} {L : mJ} {P : mP} {r : mW} (G : Gd S) (hv : PV P) (hr : RV P r) (h : CC S I P r) {a k : Nat} (ha : a < nLo P) (hk : k < nSi P) (pl wt : Int32) : ∃ J, evM zcod (d + 5) 89 [.ref 58, .int (nI a), .int (nI k), .int pl, .int wt] (S, I, L) = some (none, (S, J, L)) ∧ Fi flA I J ∧ J 58 3 = (flyS P r a k pl wt).1 ∧ J 58 4 = (flyS P r a k pl wt).2.1 ∧ J 58 5 = (flyS P r a k pl wt).2.2.1 ∧ J 58 6 = (flyS P r a k pl wt).2.2.2.1 ∧ J 58 7 = earnS P r a k pl wt := by
  have Tl := h.1.tl G is39 hv
  have Ts := h.1.ts G is39 hv
  have ql := h.1.lo ha
  have qs := h.1.si hk
  obtain ⟨J, e, f, j3, j4, j5, j6, jB⟩ := s_go d (L := L) G hv hr h (sta P (30 + k)) (sta P (10 + a)) pl (r a) (r 55 + wt) (n := 48) (by omega) (hr.1 a ha).1
  have hJ : CC S J P r := h.fi (f.up fun a j q => by unfold coA at q; unfold jk; omega)
  have TlJ := hJ.1.tl G is39 hv
  have qlJ := hJ.1.lo ha
  have st : evM zcod (d + 5) 89 [.ref 58, .int (nI a), .int (nI k), .int pl, .int wt] (S, I, L) = evk zcod none (d + 4) zc_X1_fly 57 [(0, .ref 58), (1, .int (nI a)), (5, .int (sta P (10 + a)))] [] (S, J, L) := by
    rw [E_X1_fly]
    simp only [B_X1_fly_0, gCo G, gSt G is39, if_true, s_atN _ Tl ha (show 1 < 7 by omega), s_atN _ Tl ha (show 0 < 7 by omega), s_atN _ Ts hk (show 0 < 4 by omega), bI_eq, ql, qs, h.1.ti, e, bV_eq]
  change J 58 4 = (flyS P r a k pl wt).2.1 at j4
  rw [st, B_X1_fly_57]
  simp only [gCo G, gSt G is39, if_true, j4, s_atN _ TlJ ha (show 2 < 7 by omega), bI_eq, qlJ, B_X1_fly_90, B_X1_fly_91]
  by_cases c : (flyS P r a k pl wt).2.1 = nI 1
  · have B := jB (by show ¬ (flyS P r a k pl wt).2.1 = nI 0; rw [c]; decide +kernel)
    obtain ⟨K, e2, f2⟩ := s_pays (d + 1) (L := L) G hJ.2.1 B (sta P (20 + a)) (sta P (10 + a))
    have f2' : ∀ j, K 58 j = J 58 j := fun j => f2 58 j (by unfold skA; omega)
    refine ⟨uI K 58 7 (lawP P (r 55 + wt + nI (flyS P r a k pl wt).2.2.2.2) (nI 1) (nI (soN P r (nI 2))) (sta P (20 + a)) (sta P (10 + a))), ?_, ?_, ?_, ?_, ?_, ?_, ?_⟩
    · rw [if_neg (fun q => q c)]
      simp only [e2, bI_eq, if_true, gCo G, B_X1_fly_91]
      rfl
    · refine Fi.u ((f.up fun a j q => ?_).tr (f2.up fun a j q => ?_)) (by unfold flA; omega)
      · unfold coA at q; unfold flA; omega
      · unfold skA at q; unfold flA; omega
    · exact (uI_ix (by omega)).trans ((f2' 3).trans j3)
    · exact (uI_ix (by omega)).trans ((f2' 4).trans j4)
    · exact (uI_ix (by omega)).trans ((f2' 5).trans j5)
    · exact (uI_ix (by omega)).trans ((f2' 6).trans j6)
    · unfold earnS
      rw [if_pos c]
      exact uI_same _ _ _ _
  · refine ⟨uI J 58 7 (nI 0), ?_, ?_, ?_, ?_, ?_, ?_, ?_⟩
    · rw [if_pos c]
    · exact Fi.u (f.up fun a j q => by unfold coA at q; unfold flA; omega) (by unfold flA; omega)
    · exact (uI_ix (by omega)).trans j3
    · exact (uI_ix (by omega)).trans j4
    · exact (uI_ix (by omega)).trans j5
    · exact (uI_ix (by omega)).trans j6
    · unfold earnS
      rw [if_neg c]
      exact uI_same _ _ _ _
