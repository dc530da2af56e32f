/-! the reference: a flight -/
def mfA (a j : Nat) : Prop := a = 417 ∨ a = 418 ∨ a = 421 ∨ a = 384 ∧ (j = 51 ∨ 61 ≤ j ∧ j ≤ 66)
theorem mf_mj {I J : mI} (f : Fi mfA I J) : Fi mj I J := f.up fun a j q => by unfold mfA at q; unfold mj; omega
theorem mk_mf {I J : mI} (f : Fi mkA I J) : Fi mfA I J := f.up fun a j q => by unfold mkA at q; unfold mfA; omega
theorem RW.mf {I J : mI} {r : mW} (h : RW I r) (f : Fi mfA I J) : RW J r := fun j q => (f 420 j (by unfold mfA; omega)).trans (h j q)
theorem all_hands {P : mP} (hv : PV P) {I : mI} (h0 : ∀ k, k < 5 → I 421 k = nI 0) : ∀ k, k < nHo P → allF k = decide (I 421 k < sta P (50 + k)) := fun k hk => by
  have v := hv
  obtain ⟨v1, v2, v3, v4⟩ := v
  rw [h0 k (by omega)]
  refine (decide_eq_true ?_).symm
  rw [i_lt, t_nI (by omega)]
  have := (v4 k hk).2.2.1
  omega
theorem add_sub1 (a : Int32) (i : Nat) : a + nI (i + 1) - nI 1 = a + nI i := by
  rw [← nI_add i 1, ← Int32.add_assoc, Int32.add_sub_cancel]
theorem m_flies (d : Nat) {S : mS} {I : mI} {L : mJ} {P : mP} {v : Nat} {r : mW} (G : Gd S) (hv : PV P) (h : MC S I P v) (hr : RW I r) (h0 : ∀ k, k < 5 → I 421 k = nI 0) (hour a sz w pl : Int32) {pv : Int32} (hpv : a = -1 ∧ pv = nI 0 ∨ ∃ a', a' < nLo P ∧ a = nI a' ∧ pv = lawP P hour (nI 1) (stS P r) (sta P (20 + a')) (sta P (10 + a'))) {x hi x' hi' : Int32} (ex : I 384 64 = x) (eh : I 384 65 = hi) (ex' : x' = hld (x + pl + lawW P hour (nI 1) (stS P r) hi x) (nI 0) (nI 19)) (eh' : hi' = hi + lawL P hour (nI 1) (stS P r) sz w hi x) :
    ∃ J, evM zcod (d + 4) 232 [.ref 384, .int hour, .int a, .int sz, .int w, .int pl] (S, I, L) = some (none, (S, J, L)) ∧ J 384 64 = x' ∧ J 384 65 = hi' ∧ J 384 61 = I 384 61 ∧ Fi mfA I J ∧ (∀ k, k < 5 → J 421 k = nI 0) ∧
      (J 384 62, J 384 63, J 384 66) = (if sta P 0 ≤ hi' then ((if nhA P r x' allF = -2 then nI 2 else nI 1), nhA P r x' allF, (if nhA P r x' allF = -2 then nI 0 else pv)) else if hi' ≤ nI 0 then (nI 3, I 384 63, I 384 66) else (I 384 62, I 384 63, I 384 66)) := by
  have v1 := hv.1
  have v3 := hv.2.2.1
  obtain ⟨J1, e1, f1⟩ := m_windBy (d) (L := L) G hv h hr hour (nI 1) hi x
  have h1 := h.fi (mk_mj f1)
  have r1 := hr.mk f1
  have o1 : ∀ j, j ≠ 51 → J1 384 j = I 384 j := fun j q => f1 384 j (by unfold mkA; omega)
  obtain ⟨J2, e2, f2⟩ := m_liftBy (d) (L := L) G hv h1 r1 hour (nI 1) sz w hi x
  have h2 := h1.fi (mk_mj f2)
  have r2 := r1.mk f2
  have o2 : ∀ j, j ≠ 51 → J2 384 j = I 384 j := fun j q => (f2 384 j (by unfold mkA; omega)).trans (o1 j q)
  have f12 : Fi mkA I J2 := f1.tr f2
  -- what comes behind pays
  have rest : ∀ J3, MC S J3 P v → RW J3 r → (∀ j, j ≠ 51 → J3 384 j = I 384 j) → Fi mkA I J3 → ∃ J, evk zcod none (d + 3) zc_X12_flies 51 [(0, .ref 384), (5, .int pl), (6, .int (lawW P hour (nI 1) (stS P r) hi x)), (7, .int (lawL P hour (nI 1) (stS P r) sz w hi x))] [.int pv] (S, J3, L) = some (none, (S, J, L)) ∧ J 384 64 = x' ∧ J 384 65 = hi' ∧ J 384 61 = I 384 61 ∧ Fi mfA I J ∧ (∀ k, k < 5 → J 421 k = nI 0) ∧
      (J 384 62, J 384 63, J 384 66) = (if sta P 0 ≤ hi' then ((if nhA P r x' allF = -2 then nI 2 else nI 1), nhA P r x' allF, (if nhA P r x' allF = -2 then nI 0 else pv)) else if hi' ≤ nI 0 then (nI 3, I 384 63, I 384 66) else (I 384 62, I 384 63, I 384 66)) := by
    intro J3 h3 r3 o3 f3
    let J4 := uI (uI J3 384 64 x') 384 65 hi'
    have f4 : Fi mfA I J4 := Fi.u (Fi.u (mk_mf f3) (by unfold mfA; omega)) (by unfold mfA; omega)
    have h4 := h.fi (mf_mj f4)
    have r4 := hr.mf f4
    have z4 : ∀ k, k < 5 → J4 421 k = nI 0 := fun k hk => (uI_off (by omega)).trans ((uI_off (by omega)).trans ((f3 421 k (by unfold mkA; omega)).trans (h0 k hk)))
    have p64 : J4 384 64 = x' := (uI_ix (by omega)).trans (uI_same _ _ _ _)
    have p65 : J4 384 65 = hi' := uI_same _ _ _ _
    have po : ∀ j, j ≠ 51 → j ≠ 64 → j ≠ 65 → J4 384 j = I 384 j := fun j q1 q2 q3 => (uI_ix q3).trans ((uI_ix q2).trans (o3 j q1))
    have e65 : uI J3 384 64 x' 384 65 = hi := (uI_ix (by omega)).trans ((o3 65 (by omega)).trans eh)
    have hk := m_hookAt (d + 1) (L := L) G hv h4 r4 x' (all_hands hv z4)
    have n18 : J4 384 18 = nI v := h4.2.1
    have rim : J4 404 v = sta P 0 := h4.2.2.2.2.2.1
    rw [B_X12_flies_51]
    simp only [gM G, if_true, true_and, o3 64 (by omega), ex, m_held, bI_eq, ← ex', e65, ← eh']
    rw [show uI (uI J3 384 64 x') 384 65 hi' = J4 from rfl]
    simp only [n18, zv2 h.1, rim, p65, p64, hk, bI_eq, if_true]
    by_cases c1 : sta P 0 ≤ hi'
    · rw [if_neg (by rw [i_lt]; rw [i_le] at c1; omega), B_X12_flies_112]
      simp only [gM G, if_true, uI_same]
      rcases nh_neg (P := P) (r := r) (x := x') (fr := allF) with ⟨n1, n2⟩ | ⟨g, hg, n2⟩
      · have n3 : ¬ nI 0 ≤ nhA P r x' allF := by rw [i_le]; rw [i_lt] at n1; omega
        rw [if_neg n3, B_X12_flies_125]
        simp only [gM G, if_true, uI_ix (show 63 ≠ 62 by omega), uI_same]
        rw [if_neg n3, B_X12_flies_142]
        simp only [gM G, if_true, B_X12_flies_160]
        refine ⟨_, rfl, ?_, ?_, ?_, ?_, ?_, ?_⟩
        · exact (uI_ix (by omega)).trans ((uI_ix (by omega)).trans ((uI_ix (by omega)).trans p64))
        · exact (uI_ix (by omega)).trans ((uI_ix (by omega)).trans ((uI_ix (by omega)).trans p65))
        · exact (uI_ix (by omega)).trans ((uI_ix (by omega)).trans ((uI_ix (by omega)).trans (po 61 (by omega) (by omega) (by omega))))
        · exact Fi.u (Fi.u (Fi.u f4 (by unfold mfA; omega)) (by unfold mfA; omega)) (by unfold mfA; omega)
        · exact fun k hk => (uI_off (by omega)).trans ((uI_off (by omega)).trans ((uI_off (by omega)).trans (z4 k hk)))
        · rw [if_pos c1, if_pos n2, if_pos n2]
          rw [show uI (uI (uI J4 384 63 (nhA P r x' allF)) 384 62 (nI 2)) 384 66 (nI 0) 384 62 = nI 2 from (uI_ix (by omega)).trans (uI_same _ _ _ _), show uI (uI (uI J4 384 63 (nhA P r x' allF)) 384 62 (nI 2)) 384 66 (nI 0) 384 63 = nhA P r x' allF from (uI_ix (by omega)).trans ((uI_ix (by omega)).trans (uI_same _ _ _ _)), uI_same]
      · have n3 : nI 0 ≤ nhA P r x' allF := by rw [n2]; exact nI_le (by omega) (by omega)
        have n4 : ¬ nhA P r x' allF = -2 := by rw [n2]; exact nI_m2 (by omega)
        rw [if_pos n3, B_X12_flies_124, B_X12_flies_125]
        simp only [gM G, if_true, uI_ix (show 63 ≠ 62 by omega), uI_same]
        rw [if_pos n3, B_X12_flies_140, B_X12_flies_142]
        simp only [gM G, if_true, B_X12_flies_160]
        refine ⟨_, rfl, ?_, ?_, ?_, ?_, ?_, ?_⟩
        · exact (uI_ix (by omega)).trans ((uI_ix (by omega)).trans ((uI_ix (by omega)).trans p64))
        · exact (uI_ix (by omega)).trans ((uI_ix (by omega)).trans ((uI_ix (by omega)).trans p65))
        · exact (uI_ix (by omega)).trans ((uI_ix (by omega)).trans ((uI_ix (by omega)).trans (po 61 (by omega) (by omega) (by omega))))
        · exact Fi.u (Fi.u (Fi.u f4 (by unfold mfA; omega)) (by unfold mfA; omega)) (by unfold mfA; omega)
        · exact fun k hk => (uI_off (by omega)).trans ((uI_off (by omega)).trans ((uI_off (by omega)).trans (z4 k hk)))
        · rw [if_pos c1, if_neg n4, if_neg n4]
          rw [show uI (uI (uI J4 384 63 (nhA P r x' allF)) 384 62 (nI 1)) 384 66 pv 384 62 = nI 1 from (uI_ix (by omega)).trans (uI_same _ _ _ _), show uI (uI (uI J4 384 63 (nhA P r x' allF)) 384 62 (nI 1)) 384 66 pv 384 63 = nhA P r x' allF from (uI_ix (by omega)).trans ((uI_ix (by omega)).trans (uI_same _ _ _ _)), uI_same]
    · rw [if_pos (by rw [i_lt]; rw [i_le] at c1; omega), B_X12_flies_148]
      simp only [gM G, if_true, p65, B_X12_flies_160]
      by_cases c2 : hi' ≤ nI 0
      · rw [if_neg (by rw [i_lt]; rw [i_le] at c2; omega)]
        refine ⟨_, rfl, ?_, ?_, ?_, ?_, ?_, ?_⟩
        · exact (uI_ix (by omega)).trans p64
        · exact (uI_ix (by omega)).trans p65
        · exact (uI_ix (by omega)).trans (po 61 (by omega) (by omega) (by omega))
        · exact Fi.u f4 (by unfold mfA; omega)
        · exact fun k hk => (uI_off (by omega)).trans (z4 k hk)
        · rw [if_neg c1, if_pos c2, uI_same, uI_ix (by omega), uI_ix (by omega), po 63 (by omega) (by omega) (by omega), po 66 (by omega) (by omega) (by omega)]
      · rw [if_pos (by rw [i_lt]; rw [i_le] at c2; omega)]
        refine ⟨J4, rfl, p64, p65, po 61 (by omega) (by omega) (by omega), f4, z4, ?_⟩
        rw [if_neg c1, if_neg c2, po 62 (by omega) (by omega) (by omega), po 63 (by omega) (by omega) (by omega), po 66 (by omega) (by omega) (by omega)]
  rw [E_X12_flies]
  simp only [B_X12_flies_0, gM G, if_true, ex, eh, e1, bI_eq, o1 64 (by omega), o1 65 (by omega), e2]
  rcases hpv with ⟨rfl, rfl⟩ | ⟨a', ha', rfl, hp⟩
  · rw [if_neg (fun q => q rfl)]
    exact rest J2 h2 r2 o2 f12
  · have na : ¬ nI a' = -1 := by rw [i_eq, t_nI (by omega), t_m1]; omega
    rw [if_pos na, B_X12_flies_44]
    obtain ⟨J3, e3, f3⟩ := m_paysBy (d) (L := L) G hv h2 r2 hour (nI 1) ha'
    simp only [gM G, if_true, e3, bI_eq, ← hp]
    exact rest J3 (h2.fi (mk_mj f3)) (r2.mk f3) (fun j q => (f3 384 j (by unfold mkA; omega)).trans (o2 j q)) (f12.tr f3)
theorem m_beginsFlight (d : Nat) {S : mS} {I : mI} {L : mJ} (G : Gd S) (x : Int32) : ∃ J, evM zcod (d + 2) 231 [.ref 384, .int x] (S, I, L) = some (none, (S, J, L)) ∧ J 384 61 = nI 0 ∧ J 384 62 = nI 0 ∧ J 384 63 = -2 ∧ J 384 64 = x ∧ J 384 65 = nI 0 ∧ J 384 66 = nI 0 ∧ (∀ k, k < 5 → J 421 k = nI 0) ∧ Fi mfA I J := by
  let I1 := uI (uI (uI (uI (uI (uI I 384 61 (nI 0)) 384 62 (nI 0)) 384 63 (-2)) 384 64 x) 384 65 (nI 0)) 384 66 (nI 0)
  have f1 : Fi mfA I I1 := Fi.u (Fi.u (Fi.u (Fi.u (Fi.u (Fi.u Fi.rf (by unfold mfA; omega)) (by unfold mfA; omega)) (by unfold mfA; omega)) (by unfold mfA; omega)) (by unfold mfA; omega)) (by unfold mfA; omega)
  obtain ⟨J, e, z, f⟩ := m_handsFree d (I := I1) (L := L) G
  have o : ∀ j, J 384 j = I1 384 j := fun j => f 384 j (by omega)
  refine ⟨J, ?_, ?_, ?_, ?_, ?_, ?_, ?_, z, f1.tr (f.up fun a j q => by unfold mfA; omega)⟩
  · rw [← e, E_X12_beginsFlight]
    simp only [B_X12_beginsFlight_0, B_X12_beginsFlight_21, gM G, if_true]
    rw [show uI (uI (uI (uI (uI (uI I 384 61 (nI 0)) 384 62 (nI 0)) 384 63 (-2)) 384 64 x) 384 65 (nI 0)) 384 66 (nI 0) = I1 from rfl, e]
    simp only [bV_eq, if_true]
  all_goals (rw [o]; simp [I1, uI_at])
/-- what is earned by a flight -/
def paF (P : mP) (r : mW) (a : Option Nat) (hour : Int32) (o : Int32 × Int32 × Int32 × Int32 × Nat) : Int32 := match a with
  | none => nI 0
  | some a' => if o.2.1 = nI 1 then lawP P (hour + nI o.2.2.2.2) (nI 1) (stS P r) (sta P (20 + a')) (sta P (10 + a')) else nI 0
def aOf (a : Option Nat) : Int32 := match a with
  | none => -1
  | some a' => nI a'
theorem m_fliesOn (d : Nat) {S : mS} {I : mI} {L : mJ} {P : mP} {v : Nat} {r : mW} (G : Gd S) (hv : PV P) (h : MC S I P v) (hr : RW I r) (hour sz w pl x : Int32) (a : Option Nat) (ha : ∀ a', a = some a' → a' < nLo P) : ∃ J, evM zcod (d + 5) 233 [.ref 384, .int hour, .int (aOf a), .int sz, .int w, .int pl, .int x] (S, I, L) = some (none, (S, J, L)) ∧ Fi mfA I J ∧
    (let o := goS P r (stS P r) sz w pl hour 48 0 x (nI 0)
     J 384 61 = o.1 ∧ J 384 62 = o.2.1 ∧ J 384 63 = o.2.2.1 ∧ J 384 64 = o.2.2.2.1 ∧ J 384 66 = paF P r a hour o) := by
  have key : ∀ k i, i + k = 48 → ∀ (I : mI) (x hi : Int32), MC S I P v → RW I r → (∀ k, k < 5 → I 421 k = nI 0) → I 384 61 = nI 0 → I 384 62 = nI 0 → I 384 63 = -2 → I 384 64 = x → I 384 65 = hi → I 384 66 = nI 0 → ∃ J, evk zcod none (d + 4) zc_X12_fliesOn 9 [(0, .ref 384), (1, .int hour), (2, .int (aOf a)), (3, .int sz), (4, .int w), (5, .int pl), (7, .int (nI (i + 1)))] [] (S, I, L) = some (none, (S, J, L)) ∧ Fi mfA I J ∧
    (let o := goS P r (stS P r) sz w pl hour k i x hi
     J 384 61 = o.1 ∧ J 384 62 = o.2.1 ∧ J 384 63 = o.2.2.1 ∧ J 384 64 = o.2.2.2.1 ∧ J 384 66 = paF P r a hour o) := by
    intro k
    induction k with
    | zero =>
      intro i hi I x hg h hr h0 e1 e2 e3 e4 e5 e6
      refine ⟨I, ?_, Fi.rf, e1, e2, e3, e4, ?_⟩
      · rw [B_X12_fliesOn_9, if_pos (nI_lt (by omega) (by omega)), B_X12_fliesOn_55]
      · rw [e6]
        unfold paF
        cases a
        · rfl
        · show nI 0 = if nI 0 = nI 1 then _ else nI 0
          rw [if_neg n01f]
    | succ k ih =>
      intro i hi I x hg h hr h0 e1 e2 e3 e4 e5 e6
      obtain ⟨pv, hpv⟩ : ∃ pv, aOf a = -1 ∧ pv = nI 0 ∧ a = none ∨ ∃ a', a = some a' ∧ a' < nLo P ∧ aOf a = nI a' ∧ pv = lawP P (hour + nI i) (nI 1) (stS P r) (sta P (20 + a')) (sta P (10 + a')) := by
        cases a with
        | none => exact ⟨nI 0, Or.inl ⟨rfl, rfl, rfl⟩⟩
        | some a' => exact ⟨_, Or.inr ⟨a', rfl, ha a' rfl, rfl, rfl⟩⟩
      have hpv' : aOf a = -1 ∧ pv = nI 0 ∨ ∃ a', a' < nLo P ∧ aOf a = nI a' ∧ pv = lawP P (hour + nI i) (nI 1) (stS P r) (sta P (20 + a')) (sta P (10 + a')) := by
        rcases hpv with ⟨q1, q2, _⟩ | ⟨a', _, q1, q2, q3⟩
        · exact Or.inl ⟨q1, q2⟩
        · exact Or.inr ⟨a', q1, q2, q3⟩
      obtain ⟨J, e, j64, j65, j61, f, z, jt⟩ := m_flies d (L := L) G hv h hr h0 (hour + nI i) (aOf a) sz w pl hpv' e4 e5 rfl rfl
      rw [B_X12_fliesOn_9, if_neg (nI_nlt (by omega) (by omega))]
      simp only [gM G, if_true, add_sub1, e, bV_eq]
      unfold goS
      by_cases c1 : sta P 0 ≤ hg + lawL P (hour + nI i) (nI 1) (stS P r) sz w hg x
      · rw [if_pos c1] at jt
        have t1 := congrArg Prod.fst jt
        have t2 := congrArg (fun q => q.2.1) jt
        have t3 := congrArg (fun q => q.2.2) jt
        simp only at t1 t2 t3
        have nz : ¬ J 384 62 = nI 0 := by
          rw [t1]
          split <;> decide +kernel
        rw [if_pos nz, B_X12_fliesOn_42]
        simp only [gM G, if_true]
        refine ⟨_, rfl, Fi.u f (by unfold mfA; omega), ?_⟩
        rw [if_pos c1]
        refine ⟨uI_same _ _ _ _, (uI_ix (by omega)).trans t1, (uI_ix (by omega)).trans t2, (uI_ix (by omega)).trans j64, (uI_ix (by omega)).trans (t3.trans ?_)⟩
        unfold paF
        rcases hpv with ⟨_, q2, q3⟩ | ⟨a', q0, q1, q2, q3⟩
        · rw [q3, q2, ite_self]
        · rw [q0]
          show _ = if (if nhA P r (hld (x + pl + lawW P (hour + nI i) (nI 1) (stS P r) hg x) (nI 0) (nI 19)) allF = -2 then nI 2 else nI 1) = nI 1 then _ else nI 0
          by_cases c : nhA P r (hld (x + pl + lawW P (hour + nI i) (nI 1) (stS P r) hg x) (nI 0) (nI 19)) allF = -2
          · rw [if_pos c, if_pos c, if_neg (by decide +kernel)]
          · rw [if_neg c, if_neg c, if_pos rfl, q3]
      · rw [if_neg c1] at jt
        by_cases c2 : hg + lawL P (hour + nI i) (nI 1) (stS P r) sz w hg x ≤ nI 0
        · rw [if_pos c2] at jt
          have t1 := congrArg Prod.fst jt
          have t2 := congrArg (fun q => q.2.1) jt
          have t3 := congrArg (fun q => q.2.2) jt
          simp only at t1 t2 t3
          have nz : ¬ J 384 62 = nI 0 := by rw [t1]; decide +kernel
          rw [if_pos nz, B_X12_fliesOn_42]
          simp only [gM G, if_true]
          refine ⟨_, rfl, Fi.u f (by unfold mfA; omega), ?_⟩
          rw [if_neg c1, if_pos c2]
          refine ⟨uI_same _ _ _ _, (uI_ix (by omega)).trans t1, (uI_ix (by omega)).trans (t2.trans e3), (uI_ix (by omega)).trans j64, (uI_ix (by omega)).trans (t3.trans (e6.trans ?_))⟩
          unfold paF
          cases a
          · rfl
          · show nI 0 = if nI 3 = nI 1 then _ else nI 0
            rw [if_neg (by decide +kernel)]
        · rw [if_neg c2] at jt
          have t1 := congrArg Prod.fst jt
          have t2 := congrArg (fun q => q.2.1) jt
          have t3 := congrArg (fun q => q.2.2) jt
          simp only at t1 t2 t3
          rw [if_neg (fun q => q (t1.trans e2)), B_X12_fliesOn_49, nI_add, if_neg c1, if_neg c2]
          obtain ⟨K, w1, w2, w3⟩ := ih (i + 1) (by omega) J _ _ (h.fi (mf_mj f)) (hr.mf f) z (j61.trans e1) (t1.trans e2) (t2.trans e3) j64 j65 (t3.trans e6)
          exact ⟨K, w1, f.tr w2, w3⟩
  obtain ⟨J, e, j1, j2, j3, j4, j5, j6, z, f⟩ := m_beginsFlight (d + 2) (I := I) (L := L) G x
  obtain ⟨K, w1, w2, w3⟩ := key 48 0 (by omega) J x (nI 0) (h.fi (mf_mj f)) (hr.mf f) z j1 j2 j3 j4 j5 j6
  refine ⟨K, ?_, f.tr w2, w3⟩
  rw [← w1, E_X12_fliesOn]
  simp only [B_X12_fliesOn_0, gM G, if_true, e, bV_eq]
theorem m_fliesFrom (d : Nat) {S : mS} {I : mI} {L : mJ} {P : mP} {v : Nat} {r : mW} (G : Gd S) (hv : PV P) (h : MC S I P v) (hr : RW I r) {a k : Nat} (ha : a < nLo P) (hk : k < nSi P) (wt pl : Int32) : ∃ J, evM zcod (d + 6) 234 [.ref 384, .int (nI a), .int (nI k), .int wt, .int pl] (S, I, L) = some (none, (S, J, L)) ∧ Fi mfA I J ∧
    J 384 61 = (flyS P r a k pl wt).1 ∧ J 384 62 = (flyS P r a k pl wt).2.1 ∧ J 384 63 = (flyS P r a k pl wt).2.2.1 ∧ J 384 64 = (flyS P r a k pl wt).2.2.2.1 ∧ J 384 66 = earnS P r a k pl wt := by
  have v1 := hv.1
  have v2 := hv.2.1
  have hv2 := h.1
  obtain ⟨J, e, f, z⟩ := m_fliesOn d (L := L) G hv h hr (r 55 + wt) (sta P (30 + k)) (sta P (10 + a)) pl (r a) (some a) (fun a' q => by cases q; exact ha)
  refine ⟨J, ?_, f, z⟩
  have i1 : zin (nI (5 * v + k)) 10 = True := ixT (by omega) (by omega)
  have i2 : zix (nI (5 * v + k)) = 5 * v + k := ixI (by omega)
  have i3 : zin (nI (7 * v + a)) 14 = True := ixT (by omega) (by omega)
  have i4 : zix (nI (7 * v + a)) = 7 * v + a := ixI (by omega)
  have i5 : zin (nI a) 58 = True := ixT (by omega) (by omega)
  have i6 : zix (nI a) = a := ixI (by omega)
  have e' : evM zcod (d + 5) 233 [.ref 384, .int (r 55 + wt), .int (nI a), .int (sta P (30 + k)), .int (sta P (10 + a)), .int pl, .int (r a)] (S, I, L) = some (none, (S, J, L)) := e
  rw [E_X12_fliesFrom]
  simp only [B_X12_fliesFrom_0, gM G, if_true, true_and, zt58, zx, h.2.1, pk_mul, nI_add, i1, i2, i3, i4, i5, i6, hr 55 (by omega), hr a (by omega), (h.2.2.2.2.2.2.2.2.1 a ha).1, h.2.2.2.2.2.2.2.2.2.1 k hk, e', bV_eq]
