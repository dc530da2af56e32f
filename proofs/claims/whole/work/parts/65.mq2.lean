/-! what the reference answers, second group -/
theorem foot3 {P : mP} {i k h : Int32} (c : (inN i (nLo P) && inN k (nSi P)) = true) : ∃ a b, a < nLo P ∧ b < nSi P ∧ i = nI a ∧ k = nI b := by
  obtain ⟨a, ha, e1⟩ := inN_of (Bool.and_eq_true_iff.mp c).1
  obtain ⟨b, hb, e2⟩ := inN_of (Bool.and_eq_true_iff.mp c).2
  exact ⟨a, b, ha, hb, e1, e2⟩
theorem rdy_no {P : mP} {r : mW} {i k : Int32} (c : (inN i (nLo P) && inN k (nSi P)) = false) : rdy P r i k = false := by
  unfold rdy ftL ftS
  cases c1 : inN i (nLo P)
  · simp
  · cases c2 : inN k (nSi P)
    · simp
    · rw [c1, c2] at c; cases c
theorem q_soon (d : Nat) {S : mS} {I : mI} {L : mJ} {P : mP} {v : Nat} {r : mW} (G : Gd S) (hv : PV P) (hr : RV P r) (h : MC S I P v) (n : NW I r) (i k hk : Int32) : ∃ J, evM zcod (d + 7) 236 [.ref 384, .int i, .int k, .int hk] (S, I, L) = some (some (.int (aSoon P r i k hk)), (S, J, L)) ∧ Fi mj I J := by
  have v1 := hv.1
  have v2 := hv.2.1
  rw [E_X12_soon]
  simp only [B_X12_soon_0, B_X12_soon_26, gM G, if_true, m_areBoth _ G hv h, m_isHook _ G hv h, bI_eq]
  unfold aSoon
  cases c1 : inN i (nLo P) && inN k (nSi P)
  · simp only [if_false, Bool.false_eq_true, if_true, rdy_no c1, Bool.false_and]
    exact ⟨I, rfl, Fi.rf⟩
  · cases c2 : inN hk (nHo P)
    · simp only [if_true, n10, if_false, Bool.false_eq_true, Bool.and_false]
      exact ⟨I, rfl, Fi.rf⟩
    · obtain ⟨a, b, ha, hb, rfl, rfl⟩ := foot3 (h := hk) c1
      simp only [if_true, n10, if_false, m_areAtFoot _ G hv hr n ha hb, bI_eq]
      cases c4 : rdy P r (nI a) (nI b)
      · simp only [if_false, Bool.false_eq_true, not_true_eq_false, Bool.false_and]
        exact ⟨I, B_X12_soon_26 .., Fi.rf⟩
      · obtain ⟨J1, e1, r1, s1, f1⟩ := m_copies (d + 5) (L := L) G h n
        have h1 := h.fi (copA_mj f1)
        simp only [if_true, n10, not_false_eq_true, Bool.and_self, B_X12_soon_28, gM G, e1, bV_eq, t_nI (show a < 2147483648 by omega), t_nI (show b < 2147483648 by omega), Int.toNat_natCast]
        have key : ∀ m w, m + w = 25 → ∀ I, MC S I P v → RW I r → ∃ J, evk zcod none (d + 6) zc_X12_soon 35 [(0, .ref 384), (1, .int (nI a)), (2, .int (nI b)), (3, .int hk), (4, .int (nI w))] [] (S, I, L) = some (some (.int (soonF P r a b hk m w)), (S, J, L)) ∧ Fi mj I J := by
          intro m
          induction m with
          | zero =>
            intro w hw I h r1
            refine ⟨I, ?_, Fi.rf⟩
            rw [B_X12_soon_35, if_pos (nI_lt (by omega) (by omega)), B_X12_soon_76]
            rfl
          | succ m ih =>
            intro w hw I h r1
            obtain ⟨J2, e2, f2, j1, j2, j3, j4, j5⟩ := m_fliesFrom d (L := L) G hv h r1 ha hb (nI w) (r (40 + b))
            have z1 : zin (nI (40 + b)) 58 = True := ixT (by omega) (by omega)
            have z2 : zix (nI (40 + b)) = 40 + b := ixI (by omega)
            rw [B_X12_soon_35, if_neg (nI_nlt (by omega) (by omega))]
            simp only [gM G, if_true, true_and, nI_add, z1, z2, r1 (40 + b) (by omega), e2, bV_eq, j3, B_X12_soon_70]
            unfold soonF
            by_cases c : (flyS P r a b (r (40 + b)) (nI w)).2.2.1 = hk
            · rw [if_neg (fun q => q c), if_pos c]
              exact ⟨J2, rfl, mf_mj f2⟩
            · rw [if_pos c, if_neg c]
              obtain ⟨K, e3, f3⟩ := ih (w + 1) (by omega) J2 (h.fi (mf_mj f2)) (r1.mf f2)
              exact ⟨K, e3, (mf_mj f2).tr f3⟩
        obtain ⟨K, e3, f3⟩ := key 25 0 (by omega) J1 h1 r1
        exact ⟨K, e3, (copA_mj f1).tr f3⟩
/-- the pull nearest, as the reference seeks it: v from -3 on, the best so far -/
def patM (f : Int32 → Bool) (p : Int32) : Nat → Nat → Int32 → Int32
  | 0, _, best => best
  | n + 1, w, best => patM f p n (w + 1) (if f (nI w - nI 3) = true then (if best = -100 then nI w - nI 3 else if hoff best p ≤ hoff (nI w - nI 3) p then best else nI w - nI 3) else best)
/-- seven yes or no, as a function of a pull -/
def sev (m : Nat) (v : Int32) : Bool := decide (m / 2 ^ (v + nI 3).toInt.toNat % 2 = 1)
theorem pat_all : ∀ m, m < 128 → ∀ p, p < 7 → patF (sev m) (nI p - nI 3) 7 0 = patM (sev m) (nI p - nI 3) 7 0 (-100) := by decide +kernel
theorem patF_cong {f g : Int32 → Bool} {p : Int32} : ∀ (n w : Nat), (∀ v, okI v (-3) (nI 3) = true → f v = g v) → patF f p n w = patF g p n w
  | 0, _, _ => rfl
  | n + 1, w, h => by
    have q : ∀ v, (okI v (-3) (nI 3) && f v) = (okI v (-3) (nI 3) && g v) := fun v => by
      cases c : okI v (-3) (nI 3)
      · rfl
      · rw [h v c]
    unfold patF
    rw [q, q, patF_cong n (w + 1) h]
theorem patM_cong {f g : Int32 → Bool} {p : Int32} : ∀ (n w : Nat) (b : Int32), (∀ k, k < n + w → f (nI k - nI 3) = g (nI k - nI 3)) → patM f p n w b = patM g p n w b
  | 0, _, _, _ => rfl
  | n + 1, w, b, h => by
    unfold patM
    rw [h w (by omega), patM_cong n (w + 1) _ (fun k hk => h k (by omega))]
theorem sev_bs {f : Int32 → Bool} {k : Nat} (hk : k < 7) : sev (bs (fun k => f (nI k - nI 3)) 7) (nI k - nI 3) = f (nI k - nI 3) := by
  unfold sev
  have e : (nI k - nI 3 + nI 3).toInt.toNat = k := by
    rw [Int32.sub_add_cancel, t_nI (by omega)]
    rfl
  rw [e, bs_bit hk]
  cases f (nI k - nI 3) <;> rfl
theorem ok3 {x : Int32} (h : okI x (-3) (nI 3) = true) : ∃ k, k < 7 ∧ x = nI k - nI 3 := by
  unfold okI at h
  have h := of_decide_eq_true h
  have q : ∀ k, k < 7 → (nI k - nI 3).toInt = (k : Int) - 3 := by decide +kernel
  have m3 : (-3 : Int32).toInt = -3 := by decide +kernel
  rw [i_le, i_le, t_nI (by omega), m3] at h
  refine ⟨(x.toInt + 3).toNat, by omega, ?_⟩
  rw [i_eq, q _ (by omega)]
  omega
theorem pat_eq (f : Int32 → Bool) {p : Int32} (hp : okI p (-3) (nI 3) = true) : patF f p 7 0 = patM f p 7 0 (-100) := by
  obtain ⟨k, hk, rfl⟩ := ok3 hp
  have e := pat_all (bs (fun k => f (nI k - nI 3)) 7) (bs_lt _ 7) k hk
  rw [patF_cong (g := f) 7 0 (fun v hv => by obtain ⟨j, hj, rfl⟩ := ok3 hv; exact sev_bs hj), patM_cong (g := f) 7 0 _ (fun j hj => sev_bs (by omega))] at e
  exact e
theorem RV.pull {P : mP} {r : mW} (hr : RV P r) {k : Nat} (hk : k < nSi P) : okI (r (40 + k)) (-3) (nI 3) = true := by
  unfold okI
  have q := (hr.2.1 k hk).1
  have m3 : (-3 : Int32).toInt = -3 := by decide +kernel
  refine decide_eq_true ?_
  rw [i_le, i_le, t_nI (by omega), m3]
  omega
theorem m3_up {w : Nat} : nI w - nI 3 + nI 1 = nI (w + 1) - nI 3 := by
  rw [← nI_add w 1, Int32.sub_eq_add_neg, Int32.sub_eq_add_neg, Int32.add_assoc, Int32.add_assoc, Int32.add_comm (-nI 3)]
theorem m3_gt : ∀ w, w < 9 → (nI 3 < nI w - nI 3 ↔ 6 < w) := by decide +kernel
theorem m3_0 : nI 0 - nI 3 = -3 := by decide +kernel
theorem q_patches (d : Nat) {S : mS} {I : mI} {L : mJ} {P : mP} {v : Nat} {r : mW} (G : Gd S) (hv : PV P) (hr : RV P r) (h : MC S I P v) (n : NW I r) (i k hk : Int32) : ∃ J, evM zcod (d + 7) 237 [.ref 384, .int i, .int k, .int hk] (S, I, L) = some (some (.int (aPatches P r i k hk)), (S, J, L)) ∧ Fi mj I J := by
  have v1 := hv.1
  have v2 := hv.2.1
  rw [E_X12_patches]
  simp only [B_X12_patches_0, B_X12_patches_26, gM G, if_true, m_areBoth _ G hv h, m_isHook _ G hv h, bI_eq]
  unfold aPatches
  cases c1 : inN i (nLo P) && inN k (nSi P)
  · simp only [if_false, Bool.false_eq_true, if_true, rdy_no c1, Bool.false_and]
    exact ⟨I, rfl, Fi.rf⟩
  · cases c2 : inN hk (nHo P)
    · simp only [if_true, n10, if_false, Bool.false_eq_true, Bool.and_false]
      exact ⟨I, rfl, Fi.rf⟩
    · obtain ⟨a, b, ha, hb, rfl, rfl⟩ := foot3 (h := hk) c1
      simp only [if_true, n10, if_false, m_areAtFoot _ G hv hr n ha hb, bI_eq]
      cases c4 : rdy P r (nI a) (nI b)
      · simp only [if_false, Bool.false_eq_true, not_true_eq_false, Bool.false_and]
        exact ⟨I, B_X12_patches_26 .., Fi.rf⟩
      · obtain ⟨J1, e1, r1, s1, f1⟩ := m_copies (d + 5) (L := L) G h n
        have h1 := h.fi (copA_mj f1)
        simp only [if_true, n10, not_false_eq_true, Bool.and_self, B_X12_patches_30, gM G, e1, bV_eq, t_nI (show a < 2147483648 by omega), t_nI (show b < 2147483648 by omega), Int.toNat_natCast]
        rw [pat_eq _ (hr.pull hb), ← m3_0]
        have z1 : zin (nI (40 + b)) 58 = True := ixT (by omega) (by omega)
        have z2 : zix (nI (40 + b)) = 40 + b := ixI (by omega)
        have key : ∀ m w, m + w = 7 → ∀ I best, MC S I P v → RW I r → ∃ J, evk zcod none (d + 6) zc_X12_patches 42 [(0, .ref 384), (1, .int (nI a)), (2, .int (nI b)), (3, .int hk), (4, .int best), (5, .int (nI w - nI 3))] [] (S, I, L) = some (some (.int (patM (bitV P r a b hk) (r (40 + b)) m w best)), (S, J, L)) ∧ Fi mj I J := by
          intro m
          induction m with
          | zero =>
            intro w hw I best h r1
            refine ⟨I, ?_, Fi.rf⟩
            rw [B_X12_patches_42, if_pos ((m3_gt w (by omega)).mpr (by omega)), B_X12_patches_116]
            rfl
          | succ m ih =>
            intro w hw I best h r1
            obtain ⟨J2, e2, f2, j1, j2, j3, j4, j5⟩ := m_fliesFrom d (L := L) G hv h r1 ha hb (nI 0) (nI w - nI 3)
            have r2 := r1.mf f2
            rw [B_X12_patches_42, if_neg (fun q => by have := (m3_gt w (by omega)).mp q; omega)]
            simp only [gM G, if_true, e2, bV_eq, j3, B_X12_patches_110, m3_up]
            unfold patM
            by_cases c : (flyS P r a b (nI w - nI 3) (nI 0)).2.2.1 = hk
            · have cb : bitV P r a b hk (nI w - nI 3) = true := decide_eq_true c
              rw [if_pos c, if_pos cb, B_X12_patches_68]
              by_cases c3 : best = -100
              · rw [if_pos c3, if_pos c3, B_X12_patches_106, B_X12_patches_110, m3_up]
                obtain ⟨K, e3, f3⟩ := ih (w + 1) (by omega) J2 (nI w - nI 3) (h.fi (mf_mj f2)) r2
                exact ⟨K, e3, (mf_mj f2).tr f3⟩
              · rw [if_neg c3, if_neg c3]
                simp only [gM G, if_true, true_and, nI_add, z1, z2, r2 (40 + b) (by omega), m_off, bI_eq, B_X12_patches_106, B_X12_patches_110, m3_up]
                by_cases c5 : hoff best (r (40 + b)) ≤ hoff (nI w - nI 3) (r (40 + b))
                · rw [if_pos c5, if_pos c5]
                  obtain ⟨K, e3, f3⟩ := ih (w + 1) (by omega) J2 best (h.fi (mf_mj f2)) r2
                  exact ⟨K, e3, (mf_mj f2).tr f3⟩
                · rw [if_neg c5, if_neg c5]
                  obtain ⟨K, e3, f3⟩ := ih (w + 1) (by omega) J2 (nI w - nI 3) (h.fi (mf_mj f2)) r2
                  exact ⟨K, e3, (mf_mj f2).tr f3⟩
            · have cb : ¬ bitV P r a b hk (nI w - nI 3) = true := fun q => c (of_decide_eq_true q)
              rw [if_neg c, if_neg cb]
              obtain ⟨K, e3, f3⟩ := ih (w + 1) (by omega) J2 best (h.fi (mf_mj f2)) r2
              exact ⟨K, e3, (mf_mj f2).tr f3⟩
        obtain ⟨K, e3, f3⟩ := key 7 0 (by omega) J1 (-100) h1 r1
        exact ⟨K, e3, (copA_mj f1).tr f3⟩
theorem ftS_no {P : mP} {r : mW} {k : Int32} (c : inN k (nSi P) = false) : ftS P r k = false := by
  unfold ftS
  rw [c]
  rfl
theorem q_lifts (d : Nat) {S : mS} {I : mI} {L : mJ} {P : mP} {v : Nat} {r : mW} (G : Gd S) (hv : PV P) (hr : RV P r) (h : MC S I P v) (n : NW I r) (k x : Int32) : ∃ J, evM zcod (d + 6) 239 [.ref 384, .int k, .int x] (S, I, L) = some (some (.int (aLifts P r k x)), (S, J, L)) ∧ Fi mj I J := by
  have v2 := hv.2.1
  have hv2 := h.1
  rw [E_X12_lifts]
  simp only [B_X12_lifts_0, B_X12_lifts_30, gM G, if_true, m_isSilk _ G hv h, m_in, bI_eq]
  unfold aLifts
  cases c1 : inN k (nSi P)
  · simp only [if_false, Bool.false_eq_true, if_true, ftS_no c1, Bool.false_and]
    exact ⟨I, rfl, Fi.rf⟩
  · cases c2 : okI x (nI 0) (nI 19)
    · simp only [if_true, n10, if_false, Bool.false_eq_true, Bool.and_false]
      exact ⟨I, rfl, Fi.rf⟩
    · obtain ⟨b, hb, rfl⟩ := inN_of c1
      obtain ⟨u, hu, rfl⟩ := okI_n c2 (by omega)
      have z1 : zin (nI (35 + b)) 58 = True := ixT (by omega) (by omega)
      have z2 : zix (nI (35 + b)) = 35 + b := ixI (by omega)
      have z3 : zin (nI (40 + b)) 58 = True := ixT (by omega) (by omega)
      have z4 : zix (nI (40 + b)) = 40 + b := ixI (by omega)
      have z5 : zin (nI (5 * v + b)) 10 = True := ixT (by omega) (by omega)
      have z6 : zix (nI (5 * v + b)) = 5 * v + b := ixI (by omega)
      have ef : ftS P r (nI b) = decide (r (35 + b) = -2) := by
        unfold ftS
        rw [c1, t_nI (by omega)]
        rfl
      simp only [if_true, n10, if_false, gM G, true_and, nI_add, z1, z2, n (35 + b) (by omega), ef, Bool.and_true, decide_eq_true_eq]
      rcases hr.foot hb hv with ⟨e1, e2⟩ | ⟨e1, e2⟩
      · have lt : r (35 + b) < nI 0 := by rw [i_lt]; rw [i_le] at e2; omega
        rw [if_pos lt, if_pos e1, B_X12_lifts_32, t_nI (by omega), Int.toNat_natCast]
        obtain ⟨J1, c1', r1, s1, f1⟩ := m_copies (d + 4) (L := L) G h n
        have h1 := h.fi (copA_mj f1)
        simp only [gM G, if_true, c1', bV_eq]
        have key : ∀ w, w < 10 → ∀ I, MC S I P v → RW I r → ∃ J, evk zcod none (d + 5) zc_X12_lifts 39 [(0, .ref 384), (1, .int (nI b)), (2, .int (nI u)), (3, .int (nI w))] [] (S, I, L) = some (some (.int (lifF P r b (nI u) w)), (S, J, L)) ∧ Fi mj I J := by
          intro w
          induction w with
          | zero =>
            intro hw I h r1
            refine ⟨I, ?_, Fi.rf⟩
            rw [B_X12_lifts_39, if_pos (nI_lt (by omega) (by omega)), B_X12_lifts_104]
            rfl
          | succ w ih =>
            intro hw I h r1
            obtain ⟨J2, e2, f2, j1, j2, j3, j4, j5⟩ := m_fliesOn d (L := L) G hv h r1 (r 55) (sta P (30 + b)) (nI (w + 1)) (r (40 + b)) (nI u) none (fun a' q => by cases q)
            have e2' : evM zcod (d + 5) 233 [.ref 384, .int (r 55), .int (-1), .int (sta P (30 + b)), .int (nI (w + 1)), .int (r (40 + b)), .int (nI u)] (S, I, L) = some (none, (S, J2, L)) := e2
            rw [B_X12_lifts_39, if_neg (nI_nlt (by omega) (by omega))]
            simp only [gM G, if_true, true_and, nI_add, pk_mul, h.2.1, z3, z4, z5, z6, zt58, zx, r1 55 (by omega), r1 (40 + b) (by omega), h.2.2.2.2.2.2.2.2.2.1 b hb, e2', bV_eq, j2, B_X12_lifts_96, B_X12_lifts_98]
            unfold lifF
            by_cases c3 : (goS P r (stS P r) (sta P (30 + b)) (nI (w + 1)) (r (40 + b)) (r 55) 48 0 (nI u) (nI 0)).2.1 = nI 1
            · rw [if_pos c3, if_pos (Or.inl c3)]
              exact ⟨J2, rfl, mf_mj f2⟩
            · rw [if_neg c3]
              by_cases c4 : (goS P r (stS P r) (sta P (30 + b)) (nI (w + 1)) (r (40 + b)) (r 55) 48 0 (nI u) (nI 0)).2.1 = nI 2
              · rw [if_neg (fun q => q c4), if_pos (Or.inr c4)]
                exact ⟨J2, rfl, mf_mj f2⟩
              · rw [if_pos c4, if_neg (by rintro (q | q); exact c3 q; exact c4 q), pk_m1]
                obtain ⟨K, e3, f3⟩ := ih (by omega) J2 (h.fi (mf_mj f2)) (r1.mf f2)
                exact ⟨K, e3, (mf_mj f2).tr f3⟩
        obtain ⟨K, e3, f3⟩ := key 9 (by omega) J1 h1 r1
        exact ⟨K, e3, (copA_mj f1).tr f3⟩
      · have lt : ¬ r (35 + b) < nI 0 := by rw [i_lt]; rw [i_le] at e2; omega
        rw [if_neg lt, if_neg e1]
        exact ⟨I, rfl, Fi.rf⟩
