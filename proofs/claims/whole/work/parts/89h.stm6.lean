/-! statements, reference side: late faults, numbers, names -/
def LM (I : mI) (P : Nat → Int32) (l : Nat × Nat) : Prop := I 384 15 = nI l.1 ∧ (¬ l.1 = 0 → I 384 16 = P l.2)
/-- the places grow -/
def PO (K P : Nat → Int32) : Prop := ∀ i j, i < j → j ≤ 400 → NE K j → P i < P j
/-- the names: alike here where they are alike there -/
def NR (K : Nat → Int32) (N : Nat → Int64) (L : mJ) : Prop := ∀ i j, i ≤ 400 → j ≤ 400 → NE K i → NE K j → K i = nI 2 → K j = nI 2 → (L 390 i = L 390 j ↔ N i = N j)
def NMm (I : mI) (L : mJ) (nm : List Nat) : Prop := I 384 20 = nI nm.length ∧ ∀ i (h : i < nm.length), L 392 i = L 390 nm[i]
def bdF (a j : Nat) : Prop := a = 384 ∧ 11 ≤ j ∧ j ≤ 16
theorem tkF_bd {a j : Nat} (h : tkF a j) : bdF a j := by unfold tkF at h; unfold bdF; omega
theorem LM.cg {I J : mI} {P : Nat → Int32} {l : Nat × Nat} (h : LM I P l) (e : J 384 15 = I 384 15) (e2 : J 384 16 = I 384 16) : LM J P l := ⟨e.trans h.1, fun q => e2.trans (h.2 q)⟩
theorem NE.lo {K : Nat → Int32} {i t : Nat} (h : NE K t) (q : i ≤ t) : NE K i := fun j hj => h j (by omega)
theorem TKM.fi {I J : mI} {K V P : Nat → Int32} (h : TKM I K V P) {A : Nat → Nat → Prop} (f : Fi A I J) (q : ∀ a, 387 ≤ a → a ≤ 389 → ∀ j, ¬ A a j) : TKM J K V P := h.cg fun a x y j => f a j (q a x y j)
theorem bd_tk {I J : mI} {K V P : Nat → Int32} (h : TKM I K V P) (f : Fi bdF I J) : TKM J K V P := h.fi f fun a x y j => by unfold bdF; omega
theorem m_wrong (d : Nat) {S : mS} {I : mI} {L : mJ} {K V P : Nat → Int32} (G : Gd S) (k : TKM I K V P) {t0 : Nat} (h : MS I K t0) {f t : Nat} (hf : f = 3 ∨ f = 5) (ht : t ≤ 400) (hn : NE K t) {l : Nat × Nat} (hl : LM I P l) (hw : l.1 = 0 ∨ (l.1 = 3 ∨ l.1 = 5) ∧ P l.2 < P t ∨ l.1 = f ∧ l.2 = t) : ∃ J, evM zcod (d + 1) 169 [.ref 384, .int (nI f), .int (nI t)] (S, I, L) = some (none, (S, J, L)) ∧ Fi (fun a j => a = 384 ∧ (j = 15 ∨ j = 16)) I J ∧ LM J P (lt1 l f t) := by
  have x1 : zin (nI t) 403 = True := ixT (by omega) (by omega)
  have x1i : zix (nI t) = t := ixI (by omega)
  have pt := (k.1 t ht hn).2.1
  have n00 : ¬ nI 0 < nI 0 := by decide +kernel
  rw [E_X12_wrong, B_X12_wrong_0]
  by_cases c : l.1 = 0
  · have e : I 384 15 = nI 0 := hl.1.trans (by rw [c])
    refine ⟨uI (uI I 384 15 (nI f)) 384 16 (P t), ?_, Fi.u (Fi.u Fi.rf ⟨rfl, Or.inl rfl⟩) ⟨rfl, Or.inr rfl⟩, ?_⟩
    · simp only [gM G, if_true, true_and, x1, x1i, pt, h.2.2.1, n00, if_false, e]
      rw [B_X12_wrong_46]
      simp only [gM G, if_true]
    · unfold lt1
      rw [if_pos c]
      exact ⟨(uI_ix (by omega)).trans (uI_same _ _ _ _), fun _ => uI_same _ _ _ _⟩
  · have e16 := hl.2 c
    have n15 : ¬ I 384 15 = nI 0 := by
      rw [hl.1]
      rcases hw with z | ⟨z | z, _⟩ | ⟨z, _⟩
      · exact absurd z c
      · rw [z]; decide +kernel
      · rw [z]; decide +kernel
      · rcases hf with y | y <;> (rw [z, y]; decide +kernel)
    refine ⟨I, ?_, Fi.rf, by unfold lt1; rw [if_neg c]; exact hl⟩
    simp only [gM G, if_true, true_and, x1, x1i, pt, h.2.2.1, n00, if_false, n15, e16]
    rcases hw with z | ⟨_, z⟩ | ⟨z1, z2⟩
    · exact absurd z c
    · rw [if_pos z, B_X12_wrong_45]
    · have e3 : ¬ nI f < I 384 15 := by
        rw [hl.1, z1]
        exact Int32.lt_irrefl
      rw [z2, if_neg Int32.lt_irrefl, if_neg (fun q => q rfl), if_neg e3, B_X12_wrong_45]
theorem m_boundedL (d : Nat) {S : mS} {I : mI} {L : mJ} {K V P : Nat → Int32} (G : Gd S) (k : TKM I K V P) (o : PO K P) {s : mSt} (h : MSt I K P s) (lo hi : Int32) {l : Nat × Nat} (hl : s.2 = 0 → LM I P l ∧ LTk l s.1) : ∃ y J, evM zcod (d + 4) 180 [.ref 384, .int lo, .int hi] (S, I, L) = some (some (.int y), (S, J, L)) ∧ Fi bdF I J ∧ MSt J K P (tk K (nI 3) s) ∧ ((tk K (nI 3) s).2 = 0 → y = V s.1 ∧ LM J P (nbl V (nI 1) lo hi s l)) := by
  rw [E_X12_bounded, B_X12_bounded_0]
  by_cases q : s.2 = 0
  · obtain ⟨hm, ho⟩ := h.ms q
    obtain ⟨hl1, hl2⟩ := hl q
    have es : s = (s.1, 0) := by rw [← q]
    have n00 : ¬ nI 0 < nI 0 := by decide +kernel
    have ki := m_is (d + 2) (L := L) G k hm 3 is_6.2.2.2.2.2.2.1 is_6.2.2.2.2.2.2.2
    have t1 := hm.1
    have x1 : zin (nI s.1) 403 = True := ixT (by omega) (by omega)
    have x1i : zix (nI s.1) = s.1 := ixI (by omega)
    simp only [gM G, if_true, hm.2.2.1, n00, if_false, ki, bI_eq]
    by_cases c : K s.1 = nI 3
    · rw [if_pos c, if_pos z10, B_X12_bounded_22]
      have vt := (k.1 s.1 hm.1 hm.2.2.2).2.2 c
      simp only [gM G, if_true, true_and, hm.2.1, x1, x1i, vt]
      have go : ∀ (I2 : mI), Fi (fun a j => a = 384 ∧ (j = 15 ∨ j = 16)) I I2 → ∃ J, evk zcod none (d + 3) zc_X12_bounded 51 [(0, .ref 384), (3, .int (V s.1))] [] (S, I2, L) = some (some (.int (V s.1)), (S, J, L)) ∧ Fi tkF I2 J ∧ MSt J K P (tk K (nI 3) s) := by
        intro I2 f2
        have h2 : MSt I2 K P (s.1, 0) := by
          rw [← es]
          exact h.cg fun j p1 p2 => f2 _ _ (by omega)
        obtain ⟨J, e, f, m⟩ := m_goL (d + 1) (L := L) G (k.fi f2 fun a x y j => by omega) h2 c (by decide +kernel)
        refine ⟨J, ?_, f, by rw [es]; exact m⟩
        rw [B_X12_bounded_51]
        simp only [gM G, if_true, e, bV_eq]
      by_cases w : lo ≤ V s.1 ∧ V s.1 ≤ hi
      · obtain ⟨J, e, f, m⟩ := go I Fi.rf
        refine ⟨V s.1, J, ?_, f.up fun _ _ => tkF_bd, m, fun z => ⟨rfl, ?_⟩⟩
        · rw [if_neg (by rw [i_lt]; have := w.1; rw [i_le] at this; omega), if_pos w.2]
          exact e
        · unfold nbl
          rw [one_m, if_pos w]
          exact hl1.cg (f _ _ (by unfold tkF; omega)) (f _ _ (by unfold tkF; omega))
      · have hw : l.1 = 0 ∨ (l.1 = 3 ∨ l.1 = 5) ∧ P l.2 < P s.1 ∨ l.1 = 5 ∧ l.2 = s.1 := by
          rcases hl2 with z | ⟨z1, z2⟩
          · exact Or.inl z
          · exact Or.inr (Or.inl ⟨z1, o _ _ z2 hm.1 hm.2.2.2⟩)
        obtain ⟨I2, e2, f2, l2⟩ := m_wrong (d + 2) (L := L) G k hm (f := 5) (t := s.1) (Or.inr rfl) hm.1 hm.2.2.2 hl1 hw
        obtain ⟨J, e, f, m⟩ := go I2 f2
        have e42 : evk zcod none (d + 3) zc_X12_bounded 42 [(0, .ref 384), (3, .int (V s.1))] [] (S, I, L) = some (some (.int (V s.1)), (S, J, L)) := by
          rw [B_X12_bounded_42]
          simp only [gM G, if_true, hm.2.1, e2, bV_eq]
          exact e
        refine ⟨V s.1, J, ?_, (f2.up fun _ _ z => ⟨z.1, by omega, by omega⟩).tr (f.up fun _ _ => tkF_bd), m, fun z => ⟨rfl, ?_⟩⟩
        · by_cases w1 : V s.1 < lo
          · rw [if_pos w1]
            exact e42
          · rw [if_neg w1, if_neg (fun w2 => w ⟨by rw [i_le]; rw [i_lt] at w1; omega, w2⟩)]
            exact e42
        · unfold nbl
          rw [one_m, if_neg w]
          exact l2.cg (f _ _ (by unfold tkF; omega)) (f _ _ (by unfold tkF; omega))
    · have e := m_fail (d + 2) (L := L) G k hm (f := 1) (Or.inl rfl)
      have tke : tk K (nI 3) s = (s.1, 1) := by
        unfold tk
        rw [if_pos q, if_neg c]
      rw [tke]
      refine ⟨lo, _, ?_, Fi.u (Fi.u (k := 13) (x := nI 1) Fi.rf ⟨rfl, by omega, by omega⟩) (k := 14) (x := P s.1) ⟨rfl, by omega, by omega⟩, Or.inr (mf_of (K := K) (Or.inl rfl)), fun z => absurd z (by show ¬ 1 = 0; omega)⟩
      rw [if_neg c, if_neg (fun q => q rfl), B_X12_bounded_15]
      simp only [gM G, if_true, e, bV_eq]
  · have hf := h.mf q
    have tke : tk K (nI 3) s = s := by
      unfold tk
      rw [if_neg q]
    rw [tke]
    have g0 : nI 0 < I 384 13 := by
      have := hf.gt
      rw [i_le] at this
      rw [i_lt]
      omega
    refine ⟨lo, I, ?_, Fi.rf, h, fun z => absurd z q⟩
    simp only [gM G, if_true, g0]
    rw [B_X12_bounded_15]
    simp only [gM G, if_true, m_fail_bad (d + 2) (L := L) G hf.gt, bV_eq]
theorem k_name : (2 ∈ kKs ∧ gkN 2 = 1 ∧ ¬ nI 2 = nI 0) := by decide +kernel
theorem m_named (d : Nat) {S : mS} {I : mI} {L : mJ} {K V P : Nat → Int32} {N : Nat → Int64} (G : Gd S) (k : TKM I K V P) (o : PO K P) (nr : NR K N L) {s : mSt} (h : MSt I K P s) {l : Nat × Nat} {nm : List Nat} (hl : s.2 = 0 → LM I P l ∧ LTk l s.1 ∧ NMm I L nm ∧ nm.length ≤ 16 ∧ ∀ i, i ∈ nm → i < s.1 ∧ K i = nI 2) : ∃ y J, evM zcod (d + 4) 178 [.ref 384] (S, I, L) = some (some (.int y), (S, J, L)) ∧ Fi bdF I J ∧ MSt J K P (tk K (nI 2) s) ∧ ((tk K (nI 2) s).2 = 0 → y = nI s.1 ∧ LM J P (nml N nm s l)) := by
  obtain ⟨J1, e1, f1, m1⟩ := m_mustL d (L := L) G k h 2 1 k_name.1 k_name.2.2 k_name.2.1
  have k1 := bd_tk k (f1.up fun _ _ => tkF_bd)
  have w0 : evM zcod (d + 4) 178 [.ref 384] (S, I, L) = evk zcod none (d + 3) zc_X12_named 12 [(0, .ref 384), (1, .int (I 384 11)), (2, .int (nI 0))] [] (S, J1, L) := by
    rw [E_X12_named, B_X12_named_0]
    simp only [gM G, if_true, e1, bV_eq]
  rw [w0]
  by_cases z : (tk K (nI 2) s).2 = 0
  · obtain ⟨q, c1, g1, l400⟩ := tk_le z
    obtain ⟨hl1, hl2, hl3, hl4, hl5⟩ := hl q
    obtain ⟨hm, ho⟩ := h.ms q
    obtain ⟨hm1, ho1⟩ := m1.ms z
    rw [hm.2.1]
    have x1 : zin (nI s.1) 403 = True := ixT (by omega) (by omega)
    have x1i : zix (nI s.1) = s.1 := ixI (by omega)
    have lm1 : LM J1 P l := hl1.cg (f1 _ _ (by unfold tkF; omega)) (f1 _ _ (by unfold tkF; omega))
    have key : ∀ n i (J : mI) (l' : Nat × Nat), i + n = nm.length → Fi (fun a j => a = 384 ∧ (j = 15 ∨ j = 16)) J1 J → LM J P l' → (l'.1 = 0 ∨ (l'.1 = 3 ∨ l'.1 = 5) ∧ P l'.2 < P s.1 ∨ l'.1 = 3 ∧ l'.2 = s.1) → ∃ J', evk zcod none (d + 3) zc_X12_named 12 [(0, .ref 384), (1, .int (nI s.1)), (2, .int (nI i))] [] (S, J, L) = some (some (.int (nI s.1)), (S, J', L)) ∧ Fi (fun a j => a = 384 ∧ (j = 15 ∨ j = 16)) J1 J' ∧ LM J' P (if twB N (nm.drop i) s.1 = true then lt1 l' 3 s.1 else l') := by
      intro n
      induction n with
      | zero =>
        intro i J l' hi f hl' _
        have e3 : J 384 20 = nI nm.length := (f _ _ (by omega)).trans ((f1 _ _ (by unfold tkF; omega)).trans hl3.1)
        refine ⟨J, ?_, f, ?_⟩
        · rw [B_X12_named_12]
          simp only [gM G, if_true, e3]
          rw [if_pos (nI_le (by omega) (by omega)), B_X12_named_55]
        · rw [List.drop_eq_nil_of_le (by omega)]
          exact hl'
      | succ n ih =>
        intro i J l' hi f hl' hw
        have hin : i < nm.length := by omega
        have e3 : J 384 20 = nI nm.length := (f _ _ (by omega)).trans ((f1 _ _ (by unfold tkF; omega)).trans hl3.1)
        have dr : nm.drop i = nm[i] :: nm.drop (i + 1) := List.drop_eq_getElem_cons hin
        have n1 : ¬ nI nm.length ≤ nI i := nI_ge hin (by omega)
        have xi : zin (nI i) 17 = True := ixT (by omega) (by omega)
        have xii : zix (nI i) = i := ixI (by omega)
        have c36 := hl3.2 i hin
        have mi := hl5 nm[i] (List.getElem_mem hin)
        have eqv := nr nm[i] s.1 (by omega) (by omega) (hm.2.2.2.lo (by omega)) hm.2.2.2 mi.2 c1
        have hmJ : MS J K (tk K (nI 2) s).1 := ⟨hm1.1, (f _ _ (by omega)).trans hm1.2.1, (f _ _ (by omega)).trans hm1.2.2.1, hm1.2.2.2⟩
        have tw : twB N (nm.drop i) s.1 = (decide (N nm[i] = N s.1) || twB N (nm.drop (i + 1)) s.1) := by
          rw [dr]
          rfl
        rw [tw, B_X12_named_12]
        simp only [gM G, if_true, true_and, e3, n1, if_false, hmJ.2.2.1, not_true, xi, xii, x1, x1i, c36, lg_0]
        by_cases zz : N nm[i] = N s.1
        · have zz' := eqv.mpr zz
          obtain ⟨J2, e2, f2, l2⟩ := m_wrong (d + 2) (L := L) G (k1.fi f fun a x y j => by omega) hmJ (f := 3) (t := s.1) (Or.inl rfl) (by omega) hm.2.2.2 hl' hw
          obtain ⟨J3, e3', f3, l3⟩ := ih (i + 1) J2 (lt1 l' 3 s.1) (by omega) (f.tr f2) l2 (by
            unfold lt1
            split
            · exact Or.inr (Or.inr ⟨rfl, rfl⟩)
            · exact hw)
          refine ⟨J3, ?_, f3, ?_⟩
          · rw [if_neg (fun w => w zz')]
            simp only [e2, bV_eq, if_true]
            rw [B_X12_named_49, nI_add]
            exact e3'
          · have d1 : decide (N nm[i] = N s.1) = true := decide_eq_true zz
            rw [d1, Bool.true_or, if_pos rfl]
            have idem : lt1 (lt1 l' 3 s.1) 3 s.1 = lt1 l' 3 s.1 := by
              unfold lt1
              by_cases w : l'.1 = 0
              · rw [if_pos w, if_neg (show ¬ (3, s.1).1 = 0 by show ¬ 3 = 0; omega)]
              · rw [if_neg w, if_neg w]
            rw [idem, ite_self] at l3
            exact l3
        · obtain ⟨J3, e3', f3, l3⟩ := ih (i + 1) J l' (by omega) f hl' hw
          refine ⟨J3, ?_, f3, ?_⟩
          · rw [if_pos (fun w => zz (eqv.mp w)), B_X12_named_49, nI_add]
            exact e3'
          · have d1 : decide (N nm[i] = N s.1) = false := decide_eq_false zz
            rw [d1, Bool.false_or]
            exact l3
    obtain ⟨J, e, f, lm⟩ := key nm.length 0 J1 l (by omega) Fi.rf lm1 (by
      rcases hl2 with y | ⟨y1, y2⟩
      · exact Or.inl y
      · exact Or.inr (Or.inl ⟨y1, o _ _ y2 hm.1 hm.2.2.2⟩))
    refine ⟨nI s.1, J, e, (f1.up fun _ _ => tkF_bd).tr (f.up fun _ _ z => ⟨z.1, by omega, by omega⟩), m1.cg fun j _ _ => f _ _ (by omega), fun _ => ⟨rfl, ?_⟩⟩
    rw [List.drop_zero] at lm
    exact lm
  · have hf := m1.mf z
    refine ⟨I 384 11, J1, ?_, f1.up fun _ _ => tkF_bd, m1, fun w => absurd w z⟩
    rw [B_X12_named_12]
    simp only [gM G, if_true, hf.n0, not_false_iff, B_X12_named_55, ite_self]
theorem k_semi : (59 ∈ kKs ∧ gkN 59 = 4 ∧ ¬ nI 59 = nI 0) := by decide +kernel
def enF (a j : Nat) : Prop := a = 384 ∧ (11 ≤ j ∧ j ≤ 16 ∨ j = 20)
def esF (a j : Nat) : Prop := a = 384 ∧ (11 ≤ j ∧ j ≤ 14 ∨ j = 20)
theorem esF_en {a j : Nat} (h : esF a j) : enF a j := by unfold esF at h; unfold enF; omega
theorem tkF_es {a j : Nat} (h : tkF a j) : esF a j := by unfold tkF at h; unfold esF; omega
theorem bdF_en {a j : Nat} (h : bdF a j) : enF a j := by unfold bdF at h; unfold enF; omega
theorem m_ends (d : Nat) {S : mS} {I : mI} {L : mJ} {K V P : Nat → Int32} (G : Gd S) (k : TKM I K V P) {s : mSt} (h : MSt I K P s) {nm : List Nat} (y : Int32) {t : Nat} (hy : s.2 = 0 → y = nI t ∧ t ≤ 400 ∧ NMm I L nm ∧ nm.length ≤ 16) : ∃ J L', evM zcod (d + 4) 179 [.ref 384, .int y] (S, I, L) = some (none, (S, J, L')) ∧ Fi esF I J ∧ (∀ a j, ¬ a = 392 → L' a j = L a j) ∧ MSt J K P (tk K (nI 59) s) ∧ ((tk K (nI 59) s).2 = 0 → NMm J L' (nm ++ [t])) := by
  obtain ⟨J1, e1, f1, m1⟩ := m_mustL d (L := L) G k h 59 4 k_semi.1 k_semi.2.2 k_semi.2.1
  rw [E_X12_ends, B_X12_ends_0]
  by_cases z : (tk K (nI 59) s).2 = 0
  · obtain ⟨q, c1, g1, l400⟩ := tk_le z
    obtain ⟨rfl, h4, hn, h16⟩ := hy q
    obtain ⟨hm1, ho1⟩ := m1.ms z
    have e20 : J1 384 20 = nI nm.length := (f1 _ _ (by unfold tkF; omega)).trans hn.1
    have x1 : zin (nI t) 403 = True := ixT (by omega) (by omega)
    have x1i : zix (nI t) = t := ixI (by omega)
    have xi : zin (nI nm.length) 17 = True := ixT (by omega) (by omega)
    have xii : zix (nI nm.length) = nm.length := ixI (by omega)
    refine ⟨uI J1 384 20 (nI (nm.length + 1)), uL L 392 nm.length (L 390 t), ?_, (f1.up fun _ _ => tkF_es).tr (Fi.u Fi.rf ⟨rfl, Or.inr rfl⟩), fun a j ha => uL_off ha, m1.cg fun j _ _ => uI_ix (by omega), fun _ => ⟨?_, fun i hi => ?_⟩⟩
    · simp only [gM G, if_true, e1, bV_eq, hm1.2.2.1, Int32.le_refl]
      rw [B_X12_ends_13]
      simp only [gM G, if_true, true_and, x1, x1i, e20, xi, xii, nI_add]
    · rw [uI_same, List.length_append]
      rfl
    · rw [List.length_append] at hi
      have hi' : i < nm.length + 1 := hi
      rw [uL_off (show (390 : Nat) ≠ 392 by omega)]
      by_cases w : i = nm.length
      · subst w
        rw [uL_at, if_pos ⟨rfl, rfl⟩, List.getElem_append_right (Nat.le_refl _)]
        simp
      · rw [uL_at, if_neg (fun v => w v.2), List.getElem_append_left (show i < nm.length by omega)]
        exact hn.2 i (by omega)
  · have hf := m1.mf z
    refine ⟨J1, L, ?_, f1.up fun _ _ => tkF_es, fun _ _ _ => rfl, m1, fun w => absurd w z⟩
    simp only [gM G, if_true, e1, bV_eq, hf.gt, if_false]
/-- the first token of a thing -/
theorem m_roomFor (d : Nat) {S : mS} {I : mI} {L : mJ} {K V P : Nat → Int32} (G : Gd S) (k : TKM I K V P) {t n m : Nat} (h : MSt I K P (t, 0)) (hn : n ≤ m) (hm : m ≤ 7) (h0 : ¬ K t = nI 0) : ∃ J, evM zcod (d + 4) 175 [.ref 384, .int (nI n), .int (nI m)] (S, I, L) = some (none, (S, J, L)) ∧ Fi tkF I J ∧ MSt J K P (fst1 K n m t) := by
  obtain ⟨hs, ho⟩ := h.ms rfl
  rw [E_X12_roomFor, B_X12_roomFor_0]
  unfold fst1
  by_cases q : n < m
  · obtain ⟨J, e, f, m1⟩ := m_goL (d + 1) (L := L) G k h rfl h0
    rw [if_pos q]
    refine ⟨J, ?_, f, m1⟩
    rw [if_pos (n_ne (by omega) (by omega) (by omega)), B_X12_roomFor_10]
    simp only [gM G, if_true, hs.2.2.1, not_true, if_false, e, bV_eq, B_X12_roomFor_21]
  · have en : n = m := by omega
    subst en
    rw [if_neg q, if_neg (fun q => q rfl)]
    have m1 : MF (uI (uI I 384 13 (nI 2)) 384 14 (P t)) P t 2 := mf_of (K := K) (Or.inr rfl)
    refine ⟨_, ?_, Fi.u (Fi.u (k := 13) (x := nI 2) Fi.rf ⟨rfl, by omega, by omega⟩) (k := 14) (x := P t) ⟨rfl, by omega, by omega⟩, Or.inr m1⟩
    simp only [gM G, if_true, m_fail (d + 2) (L := L) G k hs (f := 2) (Or.inr rfl), bV_eq]
    rw [B_X12_roomFor_10]
    simp only [gM G, if_true, m1.n0, not_false_iff, B_X12_roomFor_21]
