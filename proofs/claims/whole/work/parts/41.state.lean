/-! State: what the class answers of a State that holds a row -/
theorem CS.tl {S : mS} {I : mI} {a : Nat} {P : mP} {r : mW} (h : CS I a P r) (G : Gd S) (ha : isSt a = true) (hv : PV P) : Tg S I (a + 1) (a + 2) 7 7 (nLo P) := by
  have g := gSt G ha
  exact ⟨g.2.2.2.2.1, g.2.2.2.2.2.1, g.2.2.2.2.2.2.1, by rw [g.2.2.2.2.2.2.2.1]; omega, h.1.1, h.1.2.1, h.1.2.2, hv.1, by omega, by omega⟩
theorem CS.ts {S : mS} {I : mI} {a : Nat} {P : mP} {r : mW} (h : CS I a P r) (G : Gd S) (ha : isSt a = true) (hv : PV P) : Tg S I (a + 3) (a + 4) 5 4 (nSi P) := by
  have g := gSt G ha
  exact ⟨g.2.2.2.2.2.2.2.2.1, g.2.2.2.2.2.2.2.2.2.1, g.2.2.2.2.2.2.2.2.2.2.1, by rw [g.2.2.2.2.2.2.2.2.2.2.2.1]; omega, h.2.1.1, h.2.1.2.1, h.2.1.2.2, hv.2.1, by omega, by omega⟩
theorem CS.th {S : mS} {I : mI} {a : Nat} {P : mP} {r : mW} (h : CS I a P r) (G : Gd S) (ha : isSt a = true) (hv : PV P) : Tg S I (a + 5) (a + 6) 5 4 (nHo P) := by
  have g := gSt G ha
  exact ⟨g.2.2.2.2.2.2.2.2.2.2.2.2.1, g.2.2.2.2.2.2.2.2.2.2.2.2.2.1, g.2.2.2.2.2.2.2.2.2.2.2.2.2.2.1, by rw [g.2.2.2.2.2.2.2.2.2.2.2.2.2.2.2]; omega, h.2.2.1.1, h.2.2.1.2.1, h.2.2.1.2.2, hv.2.2.1, by omega, by omega⟩
/-- the rows of a State, by name -/
theorem CS.lo {I : mI} {a : Nat} {P : mP} {r : mW} (h : CS I a P r) {i : Nat} (hi : i < nLo P) : I (a + 2) (i * 7 + 0) = r i ∧ I (a + 2) (i * 7 + 1) = sta P (10 + i) ∧ I (a + 2) (i * 7 + 2) = sta P (20 + i) ∧ I (a + 2) (i * 7 + 3) = r (7 + i) ∧ I (a + 2) (i * 7 + 4) = r (14 + i) ∧ I (a + 2) (i * 7 + 5) = r (21 + i) ∧ I (a + 2) (i * 7 + 6) = r (28 + i) := h.2.2.2.1 i hi
theorem CS.si {I : mI} {a : Nat} {P : mP} {r : mW} (h : CS I a P r) {k : Nat} (hk : k < nSi P) : I (a + 4) (k * 4 + 0) = sta P (30 + k) ∧ I (a + 4) (k * 4 + 1) = r (35 + k) ∧ I (a + 4) (k * 4 + 2) = r (45 + k) ∧ I (a + 4) (k * 4 + 3) = r (40 + k) := h.2.2.2.2.1 k hk
theorem CS.ho {I : mI} {a : Nat} {P : mP} {r : mW} (h : CS I a P r) {k : Nat} (hk : k < nHo P) : I (a + 6) (k * 4 + 0) = r (50 + k) ∧ I (a + 6) (k * 4 + 1) = sta P (40 + k) ∧ I (a + 6) (k * 4 + 2) = sta P (50 + k) ∧ I (a + 6) (k * 4 + 3) = nI (cauB P r k) := h.2.2.2.2.2.1 k hk
theorem CS.ti {I : mI} {a : Nat} {P : mP} {r : mW} (h : CS I a P r) : I a 3 = r 55 ∧ I a 4 = r 56 ∧ I a 5 = r 57 := h.2.2.2.2.2.2
theorem CS.congI {I J : mI} {a : Nat} {P : mP} {r : mW} (h : CS I a P r) (e : ∀ x j, a ≤ x → x ≤ a + 6 → J x j = I x j) : CS J a P r := by
  obtain ⟨⟨a1, a2, a3⟩, ⟨b1, b2, b3⟩, ⟨c1, c2, c3⟩, hl, hs, hh, t1, t2, t3⟩ := h
  have e1 : J (a + 1) = I (a + 1) := funext fun j => e _ j (by omega) (by omega)
  have e2 : J (a + 2) = I (a + 2) := funext fun j => e _ j (by omega) (by omega)
  have e3 : J (a + 3) = I (a + 3) := funext fun j => e _ j (by omega) (by omega)
  have e4 : J (a + 4) = I (a + 4) := funext fun j => e _ j (by omega) (by omega)
  have e5 : J (a + 5) = I (a + 5) := funext fun j => e _ j (by omega) (by omega)
  have e6 : J (a + 6) = I (a + 6) := funext fun j => e _ j (by omega) (by omega)
  have e0 : J a = I a := funext fun j => e _ j (by omega) (by omega)
  unfold CS
  rw [e0, e1, e2, e3, e4, e5, e6]
  exact ⟨⟨a1, a2, a3⟩, ⟨b1, b2, b3⟩, ⟨c1, c2, c3⟩, hl, hs, hh, t1, t2, t3⟩
theorem CS.congR {I : mI} {a : Nat} {P : mP} {r r' : mW} (h : CS I a P r) (hv : PV P) (e : E58 r r') : CS I a P r' := by
  obtain ⟨w1, w2, w3, hl, hs, hh, t1, t2, t3⟩ := h
  obtain ⟨v1, v2, v3, -⟩ := hv
  refine ⟨w1, w2, w3, fun i hi => ?_, fun k hk => ?_, fun k hk => ?_, by rw [← e 55 (by omega)]; exact t1, by rw [← e 56 (by omega)]; exact t2, by rw [← e 57 (by omega)]; exact t3⟩
  · rw [← e i (by omega), ← e (7 + i) (by omega), ← e (14 + i) (by omega), ← e (21 + i) (by omega), ← e (28 + i) (by omega)]
    exact hl i hi
  · rw [← e (35 + k) (by omega), ← e (45 + k) (by omega), ← e (40 + k) (by omega)]
    exact hs k hk
  · have q : cauB P r' k = cauB P r k := bs_cong fun i hi => by
      show decide _ = decide _
      rw [e (28 + i) (by omega)]
    rw [← e (50 + k) (by omega), q]
    exact hh k hk
theorem s_loadsThat (d : Nat) {S : mS} {I : mI} {L : mJ} {a : Nat} {P : mP} {r : mW} (G : Gd S) (ha : isSt a = true) (hv : PV P) (h : CS I a P r) (s : Int32) : evM zcod (d + 2) 22 [.ref a, .int s] (S, I, L) = some (some (.int (nI (soB P r s))), (S, I, L)) := by
  have g := gSt G ha
  have hT := h.tl G ha hv
  have v1 := hv.1
  have key : ∀ k i, i + k = nLo P → evk zcod none (d + 1) zc_X8_loadsThat 4 [(0, .ref a), (1, .int s), (2, .int (nI (bs (isS r s) i))), (3, .int (nI i))] [] (S, I, L) = some (some (.int (nI (soB P r s))), (S, I, L)) := by
    intro k
    induction k with
    | zero =>
      intro i hi
      simp only [B_X8_loadsThat_4, B_X8_loadsThat_40, g, s_size d hT, bI_eq, if_true]
      rw [if_pos (nI_le (by omega) (by omega))]
      unfold soB
      rw [show nLo P = i from by omega]
    | succ k ih =>
      intro i hi
      rw [B_X8_loadsThat_4]
      simp only [g, s_size d hT, bI_eq, if_true]
      rw [if_neg (nI_ge (by omega) (by omega)), s_atN d hT (a := i) (b := 3) (by omega) (by omega), (h.lo (i := i) (by omega)).2.2.2.1]
      simp only [bI_eq, if_true, B_X8_loadsThat_34, nI_add]
      by_cases c : r (7 + i) = s
      · rw [if_neg (fun q => q c), bs_or (by omega) (decide_eq_true c)]
        exact ih (i + 1) (by omega)
      · rw [if_pos c, bs_no (P := isS r s) (fun q => c (of_decide_eq_true q))]
        exact ih (i + 1) (by omega)
  rw [E_X8_loadsThat, B_X8_loadsThat_0]
  exact key (nLo P) 0 (by omega)
theorem bc_f : ∀ b, b < 128 → (((((((((nI b) - (((nI b).toUInt32 >>> ((nI 1).toUInt32 &&& 31)).toInt32 &&& (nI 1431655765))) &&& (nI 858993459)) + ((((nI b) - (((nI b).toUInt32 >>> ((nI 1).toUInt32 &&& 31)).toInt32 &&& (nI 1431655765))).toUInt32 >>> ((nI 2).toUInt32 &&& 31)).toInt32 &&& (nI 858993459))) + (((((nI b) - (((nI b).toUInt32 >>> ((nI 1).toUInt32 &&& 31)).toInt32 &&& (nI 1431655765))) &&& (nI 858993459)) + ((((nI b) - (((nI b).toUInt32 >>> ((nI 1).toUInt32 &&& 31)).toInt32 &&& (nI 1431655765))).toUInt32 >>> ((nI 2).toUInt32 &&& 31)).toInt32 &&& (nI 858993459))).toUInt32 >>> ((nI 4).toUInt32 &&& 31)).toInt32) &&& (nI 252645135)) + (((((((nI b) - (((nI b).toUInt32 >>> ((nI 1).toUInt32 &&& 31)).toInt32 &&& (nI 1431655765))) &&& (nI 858993459)) + ((((nI b) - (((nI b).toUInt32 >>> ((nI 1).toUInt32 &&& 31)).toInt32 &&& (nI 1431655765))).toUInt32 >>> ((nI 2).toUInt32 &&& 31)).toInt32 &&& (nI 858993459))) + (((((nI b) - (((nI b).toUInt32 >>> ((nI 1).toUInt32 &&& 31)).toInt32 &&& (nI 1431655765))) &&& (nI 858993459)) + ((((nI b) - (((nI b).toUInt32 >>> ((nI 1).toUInt32 &&& 31)).toInt32 &&& (nI 1431655765))).toUInt32 >>> ((nI 2).toUInt32 &&& 31)).toInt32 &&& (nI 858993459))).toUInt32 >>> ((nI 4).toUInt32 &&& 31)).toInt32) &&& (nI 252645135)).toUInt32 >>> ((nI 8).toUInt32 &&& 31)).toInt32) + ((((((((nI b) - (((nI b).toUInt32 >>> ((nI 1).toUInt32 &&& 31)).toInt32 &&& (nI 1431655765))) &&& (nI 858993459)) + ((((nI b) - (((nI b).toUInt32 >>> ((nI 1).toUInt32 &&& 31)).toInt32 &&& (nI 1431655765))).toUInt32 >>> ((nI 2).toUInt32 &&& 31)).toInt32 &&& (nI 858993459))) + (((((nI b) - (((nI b).toUInt32 >>> ((nI 1).toUInt32 &&& 31)).toInt32 &&& (nI 1431655765))) &&& (nI 858993459)) + ((((nI b) - (((nI b).toUInt32 >>> ((nI 1).toUInt32 &&& 31)).toInt32 &&& (nI 1431655765))).toUInt32 >>> ((nI 2).toUInt32 &&& 31)).toInt32 &&& (nI 858993459))).toUInt32 >>> ((nI 4).toUInt32 &&& 31)).toInt32) &&& (nI 252645135)) + (((((((nI b) - (((nI b).toUInt32 >>> ((nI 1).toUInt32 &&& 31)).toInt32 &&& (nI 1431655765))) &&& (nI 858993459)) + ((((nI b) - (((nI b).toUInt32 >>> ((nI 1).toUInt32 &&& 31)).toInt32 &&& (nI 1431655765))).toUInt32 >>> ((nI 2).toUInt32 &&& 31)).toInt32 &&& (nI 858993459))) + (((((nI b) - (((nI b).toUInt32 >>> ((nI 1).toUInt32 &&& 31)).toInt32 &&& (nI 1431655765))) &&& (nI 858993459)) + ((((nI b) - (((nI b).toUInt32 >>> ((nI 1).toUInt32 &&& 31)).toInt32 &&& (nI 1431655765))).toUInt32 >>> ((nI 2).toUInt32 &&& 31)).toInt32 &&& (nI 858993459))).toUInt32 >>> ((nI 4).toUInt32 &&& 31)).toInt32) &&& (nI 252645135)).toUInt32 >>> ((nI 8).toUInt32 &&& 31)).toInt32).toUInt32 >>> ((nI 16).toUInt32 &&& 31)).toInt32) &&& (nI 63)) = nI (pc b 7) := by decide +kernel
theorem s_bitCount (d : Nat) {S : mS} {I : mI} {L : mJ} {b : Nat} (hb : b < 128) : evM zcod (d + 1) 277 [.int (nI b)] (S, I, L) = some (some (.int (nI (pc b 7))), (S, I, L)) := by
  rw [E_J6_bitCount_0f7a4, B_J6_bitCount_0f7a4_0, bc_f b hb]
theorem s_up (d : Nat) {S : mS} {I : mI} {L : mJ} {a : Nat} {P : mP} {r : mW} (G : Gd S) (ha : isSt a = true) (hv : PV P) (h : CS I a P r) : evM zcod (d + 3) 23 [.ref a] (S, I, L) = some (some (.int (nI (soN P r (nI 1)))), (S, I, L)) := by
  have v1 := hv.1
  rw [E_X8_up]
  simp only [B_X8_up_0, gSt G ha, s_loadsThat d G ha hv h, bI_eq, if_true, s_bitCount (d + 1) (bs_128 _ v1), soB, soN, pc_cn v1]
theorem s_stored (d : Nat) {S : mS} {I : mI} {L : mJ} {a : Nat} {P : mP} {r : mW} (G : Gd S) (ha : isSt a = true) (hv : PV P) (h : CS I a P r) : evM zcod (d + 3) 24 [.ref a] (S, I, L) = some (some (.int (nI (soN P r (nI 2)))), (S, I, L)) := by
  have v1 := hv.1
  rw [E_X8_stored]
  simp only [B_X8_stored_0, gSt G ha, s_loadsThat d G ha hv h, bI_eq, if_true, s_bitCount (d + 1) (bs_128 _ v1), soB, soN, pc_cn v1]
/-- a load there, at the foot -/
def ftL (P : mP) (r : mW) (i : Int32) : Bool := inN i (nLo P) && decide (r (7 + i.toInt.toNat) = nI 0)
def ftS (P : mP) (r : mW) (k : Int32) : Bool := inN k (nSi P) && decide (r (35 + k.toInt.toNat) = -2)
theorem s_loadAtFoot (d : Nat) {S : mS} {I : mI} {L : mJ} {a : Nat} {P : mP} {r : mW} (G : Gd S) (ha : isSt a = true) (hv : PV P) (h : CS I a P r) (i : Int32) : evM zcod (d + 2) 25 [.ref a, .int i] (S, I, L) = some (some (.int (if ftL P r i = true then nI 1 else nI 0)), (S, I, L)) := by
  have hT := h.tl G ha hv
  have v1 := hv.1
  rw [E_X8_isLoadAtFoot]
  simp only [B_X8_isLoadAtFoot_0, B_X8_isLoadAtFoot_27, B_X8_isLoadAtFoot_28, gSt G ha, s_has d hT, bI_eq, if_true, b0, b1]
  unfold ftL
  by_cases c : inN i (nLo P) = true
  · obtain ⟨k, hk, rfl⟩ := inN_of c
    simp only [c, if_true, n10, if_false, Bool.true_and, t_nI (show k < 2147483648 from by omega), Int.toNat_natCast, decide_eq_true_eq]
    rw [s_atN d hT (a := k) (b := 3) hk (by omega), (h.lo hk).2.2.2.1]
    simp only [bI_eq, if_true, B_X8_isLoadAtFoot_0, B_X8_isLoadAtFoot_27, B_X8_isLoadAtFoot_28, b0, b1]
    by_cases c2 : r (7 + k) = nI 0
    · rw [if_neg (fun q => q c2), if_pos c2]
    · rw [if_pos c2, if_neg c2]
  · rw [if_neg c, if_pos rfl, if_neg (fun q => c (Bool.and_eq_true_iff.mp q).1)]
theorem s_silkAtFoot (d : Nat) {S : mS} {I : mI} {L : mJ} {a : Nat} {P : mP} {r : mW} (G : Gd S) (ha : isSt a = true) (hv : PV P) (h : CS I a P r) (i : Int32) : evM zcod (d + 2) 26 [.ref a, .int i] (S, I, L) = some (some (.int (if ftS P r i = true then nI 1 else nI 0)), (S, I, L)) := by
  have hT := h.ts G ha hv
  have v1 := hv.2.1
  rw [E_X8_isSilkAtFoot]
  simp only [B_X8_isSilkAtFoot_0, B_X8_isSilkAtFoot_29, B_X8_isSilkAtFoot_30, gSt G ha, s_has d hT, bI_eq, if_true, b0, b1]
  unfold ftS
  by_cases c : inN i (nSi P) = true
  · obtain ⟨k, hk, rfl⟩ := inN_of c
    simp only [c, if_true, n10, if_false, Bool.true_and, t_nI (show k < 2147483648 from by omega), Int.toNat_natCast, decide_eq_true_eq]
    rw [s_atN d hT (a := k) (b := 1) hk (by omega), (h.si hk).2.1]
    simp only [bI_eq, if_true, B_X8_isSilkAtFoot_0, B_X8_isSilkAtFoot_29, B_X8_isSilkAtFoot_30, b0, b1]
    by_cases c2 : r (35 + k) = -2
    · rw [if_neg (fun q => q c2), if_pos c2]
    · rw [if_pos c2, if_neg c2]
  · rw [if_neg c, if_pos rfl, if_neg (fun q => c (Bool.and_eq_true_iff.mp q).1)]
def rdy (P : mP) (r : mW) (i k : Int32) : Bool := ftL P r i && ftS P r k
theorem s_isReady (d : Nat) {S : mS} {I : mI} {L : mJ} {a : Nat} {P : mP} {r : mW} (G : Gd S) (ha : isSt a = true) (hv : PV P) (h : CS I a P r) (i k : Int32) : evM zcod (d + 3) 27 [.ref a, .int i, .int k] (S, I, L) = some (some (.int (if rdy P r i k = true then nI 1 else nI 0)), (S, I, L)) := by
  rw [E_X8_isReady]
  simp only [B_X8_isReady_0, B_X8_isReady_20, B_X8_isReady_21, gSt G ha, s_loadAtFoot d G ha hv h, s_silkAtFoot d G ha hv h, bI_eq, if_true, b0, b1]
  unfold rdy
  cases ftL P r i <;> cases ftS P r k <;> simp [n10]
/-! hooks -/
theorem s_abs (d : Nat) {S : mS} {I : mI} {L : mJ} (x : Int32) : evM zcod (d + 1) 276 [.int x] (S, I, L) = some (some (.int (if nI 0 ≤ x then x else -x)), (S, I, L)) := by
  rw [E_J9_abs_0f7a4]
  simp only [B_J9_abs_0f7a4_0, B_J9_abs_0f7a4_9, B_J9_abs_0f7a4_10]
  split <;> rfl
def offN (u v : Nat) : Nat := if u < v then v - u else u - v
theorem hoff_nI {u v : Nat} (hu : u < 2147483648) (hv : v < 2147483648) : hoff (nI u) (nI v) = nI (offN u v) := by
  unfold hoff offN
  by_cases c : u < v
  · rw [if_pos (nI_lt c hv), if_pos c, pk_sub (by omega)]
  · rw [if_neg (nI_nlt (by omega) hu), if_neg c, pk_sub (by omega)]
theorem abs_off : ∀ u, u < 20 → ∀ v, v < 20 → (if nI 0 ≤ nI u - nI v then nI u - nI v else -(nI u - nI v)) = nI (offN u v) ∧ offN u v < 20 := by decide +kernel
theorem in20 {x : Int32} (h : 0 ≤ x.toInt ∧ x.toInt ≤ 19) : ∃ u, u < 20 ∧ x = nI u := i_of2 (n := 20) h.1 (by omega)
theorem nI_m2 {k : Nat} (hk : k < 2147483648) : ¬ nI k = -2 := by
  rw [i_eq, t_nI hk, t_m2]
  omega
theorem m2_neg : (-2 : Int32) < 0 := by decide +kernel
theorem nI_nneg {k : Nat} (hk : k < 2147483648) : ¬ nI k < 0 := nI_pos hk
/-- hooks stand where they may -/
def HX (P : mP) (r : mW) : Prop := ∀ h, h < nHo P → 0 ≤ (r (50 + h)).toInt ∧ (r (50 + h)).toInt ≤ 19
theorem s_nearest (d : Nat) {S : mS} {I : mI} {L : mJ} {a : Nat} {P : mP} {r : mW} (G : Gd S) (ha : isSt a = true) (hv : PV P) (hr : HX P r) (h : CS I a P r) {x z : Int32} {fr : Nat → Bool} (hx : 0 ≤ x.toInt ∧ x.toInt ≤ 19) (hz : ∀ k, k < nHo P → (z >>> (nI k &&& nI 31)) &&& nI 1 = if fr k = true then nI 0 else nI 1) : evM zcod (d + 2) 30 [.ref a, .int x, .int z] (S, I, L) = some (some (.int (nhA P r x fr)), (S, I, L)) := by
  have g := gSt G ha
  have hT := h.th G ha hv
  have v1 := hv.2.2.1
  obtain ⟨u, hu, rfl⟩ := in20 hx
  have key : ∀ k i, i + k = nHo P → ∀ le, (nh P r (nI u) fr i = -2 ∧ le = 20 ∨ ∃ b w, b < i ∧ nh P r (nI u) fr i = nI b ∧ r (50 + b) = nI w ∧ w < 20 ∧ le = offN w u) → evk zcod none (d + 1) zc_X8_nearestHook 10 [(0, .ref a), (1, .int (nI u)), (2, .int z), (3, .int (nh P r (nI u) fr i)), (4, .int (nI le)), (5, .int (nI i))] [] (S, I, L) = some (some (.int (nhA P r (nI u) fr)), (S, I, L)) := by
    intro k
    induction k with
    | zero =>
      intro i hi le hle
      simp only [B_X8_nearestHook_10, B_X8_nearestHook_83, g, s_size d hT, bI_eq, if_true]
      rw [if_pos (nI_le (by omega) (by omega))]
      unfold nhA
      rw [show nHo P = i from by omega]
    | succ k ih =>
      intro i hi le hle
      have hiN : i < nHo P := by omega
      obtain ⟨w, hw, ew⟩ := in20 (hr i hiN)
      obtain ⟨rc, hrc, erc⟩ := i_of2 (n := 6) (hv.2.2.2 i hiN).1 (by have := (hv.2.2.2 i hiN).2.1; omega)
      obtain ⟨eo, ho⟩ := abs_off w hw u hu
      have enh : nh P r (nI u) fr (i + 1) = if rc < offN w u ∨ fr i = false then nh P r (nI u) fr i else if offN w u < le then nI i else nh P r (nI u) fr i := by
        show (if sta P (40 + i) < hoff (r (50 + i)) (nI u) ∨ fr i = false then nh P r (nI u) fr i else if nh P r (nI u) fr i < 0 ∨ hoff (r (50 + i)) (nI u) < hoff (r (50 + (nh P r (nI u) fr i).toInt.toNat)) (nI u) then nI i else nh P r (nI u) fr i) = _
        rw [erc, ew, hoff_nI (by omega) (by omega)]
        simp only [nI_ltI (show rc < 2 ^ 31 by omega) (show offN w u < 2 ^ 31 by omega)]
        split
        · rfl
        · rcases hle with ⟨e1, e2⟩ | ⟨b, w', hb, e1, e2, hw', e3⟩
          · rw [e1, if_pos (Or.inl m2_neg), if_pos (by omega)]
          · rw [e1, t_nI (by omega), Int.toNat_natCast, e2, hoff_nI (by omega) (by omega)]
            have : (nI b < 0 ∨ nI (offN w u) < nI (offN w' u)) ↔ offN w u < le := by
              rw [nI_ltI (by omega) (by have := (abs_off w' hw' u hu).2; omega), e3]
              constructor
              · rintro (q | q)
                · exact absurd q (nI_nneg (by omega))
                · exact q
              · exact Or.inr
            simp only [this]
      rw [B_X8_nearestHook_10]
      simp only [g, s_size d hT, bI_eq, if_true]
      have hle20 : le ≤ 20 := by
        rcases hle with ⟨_, e2⟩ | ⟨b, w', _, _, _, hw', e3⟩
        · omega
        · have := (abs_off w' hw' u hu).2
          omega
      rw [if_neg (nI_ge hiN (by omega)), s_atN d hT (a := i) (b := 0) hiN (by omega), (h.ho hiN).1, ew]
      simp only [bI_eq, if_true, s_abs, eo, B_X8_nearestHook_77, nI_add, B_X8_nearestHook_61]
      by_cases c1 : le ≤ offN w u
      · rw [if_pos (nI_le c1 (by omega))]
        have e : nh P r (nI u) fr (i + 1) = nh P r (nI u) fr i := by
          rw [enh]
          split
          · rfl
          · rw [if_neg (by omega)]
        rw [← e]
        refine ih (i + 1) (by omega) le ?_
        rw [e]
        rcases hle with q | ⟨b, w', hb, q⟩
        · exact Or.inl q
        · exact Or.inr ⟨b, w', by omega, q⟩
      · rw [if_neg (nI_ge (by omega) (by omega))]
        simp only [g, if_true, s_atN d hT (a := i) (b := 1) hiN (show 1 < 4 by omega), (h.ho hiN).2.1, erc, bI_eq, B_X8_nearestHook_77, B_X8_nearestHook_61, nI_add]
        have stay : nh P r (nI u) fr (i + 1) = nh P r (nI u) fr i → evk zcod none (d + 1) zc_X8_nearestHook 10 [(0, .ref a), (1, .int (nI u)), (2, .int z), (3, .int (nh P r (nI u) fr i)), (4, .int (nI le)), (5, .int (nI (i + 1)))] [] (S, I, L) = some (some (.int (nhA P r (nI u) fr)), (S, I, L)) := by
          intro e
          rw [← e]
          refine ih (i + 1) (by omega) le ?_
          rw [e]
          rcases hle with q | ⟨b, w', hb, q⟩
          · exact Or.inl q
          · exact Or.inr ⟨b, w', by omega, q⟩
        by_cases c2 : rc < offN w u
        · rw [if_pos (nI_lt c2 (by omega))]
          exact stay (by rw [enh, if_pos (Or.inl c2)])
        · rw [if_neg (nI_nlt (by omega) (by omega)), hz i hiN]
          by_cases c3 : fr i = true
          · rw [if_pos c3, if_neg (fun q => q rfl)]
            have e : nh P r (nI u) fr (i + 1) = nI i := by
              rw [enh, if_neg (by rintro (q | q); exact c2 q; rw [c3] at q; cases q), if_pos (by omega)]
            rw [← e]
            exact ih (i + 1) (by omega) (offN w u) (Or.inr ⟨i, w, by omega, e, ew, hw, rfl⟩)
          · rw [if_neg c3, if_pos (by rw [n10]; exact fun q => q)]
            exact stay (by rw [enh, if_pos (Or.inr (by simpa using c3))])
  rw [E_X8_nearestHook, B_X8_nearestHook_0]
  exact key (nHo P) 0 (by omega) 20 (Or.inl ⟨rfl, rfl⟩)
