/-! the reference: laws told, hooks, flights -/
theorem m_liftBy (d : Nat) {S : mS} {I : mI} {L : mJ} {P : mP} {v : Nat} {r : mW} (G : Gd S) (hv : PV P) (h : MC S I P v) (hr : RW I r) (hour up sz w hi ac : Int32) : ∃ K, evM zcod (d + 3) 207 [.ref 384, .int hour, .int up, .int sz, .int w, .int hi, .int ac] (S, I, L) = some (some (.int (lawL P hour up (stS P r) sz w hi ac)), (S, K, L)) ∧ Fi mkA I K := by
  obtain ⟨J, e, hJ, f⟩ := m_looks d (L := L) G hv h hr hour up
  let J1 := uI (uI (uI (uI J 417 2 sz) 417 3 w) 417 4 hi) 417 5 ac
  have f1 : Fi lkA I J1 := Fi.u (Fi.u (Fi.u (Fi.u f rfl) rfl) rfl) rfl
  have hJ1 : ∀ k, k < 9 → J1 417 k = vv hour up (stS P r) sz w hi ac 0 k := fun k hk => by
    have q := hJ k hk
    match k, hk, q with
    | 0, _, q => simp [J1, uI_at]; rw [q]; rfl
    | 1, _, q => simp [J1, uI_at]; rw [q]; rfl
    | 2, _, q => simp [J1, uI_at, vv]
    | 3, _, q => simp [J1, uI_at, vv]
    | 4, _, q => simp [J1, uI_at, vv]
    | 5, _, q => simp [J1, uI_at, vv]
    | 6, _, q => simp [J1, uI_at]; rw [q]; rfl
    | 7, _, q => simp [J1, uI_at]; rw [q]; rfl
    | 8, _, q => simp [J1, uI_at]; rw [q]; rfl
    | n + 9, z, _ => omega
  obtain ⟨K, e2, f2⟩ := m_law d (L := L) h (k := 0) (by omega) f1 hJ1 (pl := sz - w) (by show _ = J1 417 2 - J1 417 3; rw [hJ1 2 (by omega), hJ1 3 (by omega)]; rfl)
  refine ⟨K, ?_, f2⟩
  rw [E_X12_liftBy]
  simp only [B_X12_liftBy_0, gM G, if_true, e, bV_eq, true_and, zt9, zx, B_X12_liftBy_29]
  rw [show uI (uI (uI (uI J 417 2 sz) 417 3 w) 417 4 hi) 417 5 ac = J1 from rfl, e2]
  simp only [bI_eq, if_true, m_held]
  rfl
theorem m_windBy (d : Nat) {S : mS} {I : mI} {L : mJ} {P : mP} {v : Nat} {r : mW} (G : Gd S) (hv : PV P) (h : MC S I P v) (hr : RW I r) (hour up hi ac : Int32) : ∃ K, evM zcod (d + 3) 208 [.ref 384, .int hour, .int up, .int hi, .int ac] (S, I, L) = some (some (.int (lawW P hour up (stS P r) hi ac)), (S, K, L)) ∧ Fi mkA I K := by
  obtain ⟨J, e, hJ, f⟩ := m_looks d (L := L) G hv h hr hour up
  let J1 := uI (uI J 417 4 hi) 417 5 ac
  have f1 : Fi lkA I J1 := Fi.u (Fi.u f rfl) rfl
  have hJ1 : ∀ k, k < 9 → J1 417 k = vv hour up (stS P r) 0 0 hi ac 0 k := fun k hk => by
    have q := hJ k hk
    match k, hk, q with
    | 0, _, q => simp [J1, uI_at]; rw [q]; rfl
    | 1, _, q => simp [J1, uI_at]; rw [q]; rfl
    | 2, _, q => simp [J1, uI_at]; rw [q]; rfl
    | 3, _, q => simp [J1, uI_at]; rw [q]; rfl
    | 4, _, q => simp [J1, uI_at, vv]
    | 5, _, q => simp [J1, uI_at, vv]
    | 6, _, q => simp [J1, uI_at]; rw [q]; rfl
    | 7, _, q => simp [J1, uI_at]; rw [q]; rfl
    | 8, _, q => simp [J1, uI_at]; rw [q]; rfl
    | n + 9, z, _ => omega
  obtain ⟨K, e2, f2⟩ := m_law d (L := L) h (k := 1) (by omega) f1 hJ1 (pl := nI 0) nI_0
  refine ⟨K, ?_, f2⟩
  rw [E_X12_windBy]
  simp only [B_X12_windBy_0, gM G, if_true, e, bV_eq, true_and, zt9, zx]
  rw [show uI (uI J 417 4 hi) 417 5 ac = J1 from rfl, e2]
  simp only [bI_eq, if_true, m_held]
  rfl
theorem m_tiesBy (d : Nat) {S : mS} {I : mI} {L : mJ} {P : mP} {v : Nat} {r : mW} (G : Gd S) (hv : PV P) (h : MC S I P v) (hr : RW I r) (hour up sz w : Int32) : ∃ K, evM zcod (d + 3) 209 [.ref 384, .int hour, .int up, .int sz, .int w] (S, I, L) = some (some (.int (lawT P hour up (stS P r) sz w)), (S, K, L)) ∧ Fi mkA I K := by
  obtain ⟨J, e, hJ, f⟩ := m_looks d (L := L) G hv h hr hour up
  let J1 := uI (uI J 417 2 sz) 417 3 w
  have f1 : Fi lkA I J1 := Fi.u (Fi.u f rfl) rfl
  have hJ1 : ∀ k, k < 9 → J1 417 k = vv hour up (stS P r) sz w 0 0 0 k := fun k hk => by
    have q := hJ k hk
    match k, hk, q with
    | 0, _, q => simp [J1, uI_at]; rw [q]; rfl
    | 1, _, q => simp [J1, uI_at]; rw [q]; rfl
    | 2, _, q => simp [J1, uI_at, vv]
    | 3, _, q => simp [J1, uI_at, vv]
    | 4, _, q => simp [J1, uI_at]; rw [q]; rfl
    | 5, _, q => simp [J1, uI_at]; rw [q]; rfl
    | 6, _, q => simp [J1, uI_at]; rw [q]; rfl
    | 7, _, q => simp [J1, uI_at]; rw [q]; rfl
    | 8, _, q => simp [J1, uI_at]; rw [q]; rfl
    | n + 9, z, _ => omega
  obtain ⟨K, e2, f2⟩ := m_law d (L := L) h (k := 2) (by omega) f1 hJ1 (pl := w) (by show _ = J1 417 3; rw [hJ1 3 (by omega)]; rfl)
  refine ⟨K, ?_, f2⟩
  rw [E_X12_tiesBy]
  simp only [B_X12_tiesBy_0, gM G, if_true, e, bV_eq, true_and, zt9, zx]
  rw [show uI (uI J 417 2 sz) 417 3 w = J1 from rfl, e2]
  simp only [bI_eq, if_true, m_held]
  rfl
theorem m_paysBy (d : Nat) {S : mS} {I : mI} {L : mJ} {P : mP} {v : Nat} {r : mW} (G : Gd S) (hv : PV P) (h : MC S I P v) (hr : RW I r) (hour up : Int32) {a : Nat} (ha : a < nLo P) : ∃ K, evM zcod (d + 3) 210 [.ref 384, .int hour, .int up, .int (nI a)] (S, I, L) = some (some (.int (lawP P hour up (stS P r) (sta P (20 + a)) (sta P (10 + a)))), (S, K, L)) ∧ Fi mkA I K := by
  obtain ⟨J, e, hJ, f⟩ := m_looks d (L := L) G hv h hr hour up
  have v1 := hv.1
  have hv2 := h.1
  have hJm : MC S J P v := h.fi (f.up fun a j q => by unfold lkA at q; unfold mj; omega)
  let J1 := uI (uI J 417 3 (sta P (10 + a))) 417 6 (sta P (20 + a))
  have f1 : Fi lkA I J1 := Fi.u (Fi.u f rfl) rfl
  have hJ1 : ∀ k, k < 9 → J1 417 k = vv hour up (stS P r) 0 (sta P (10 + a)) 0 0 (sta P (20 + a)) k := fun k hk => by
    have q := hJ k hk
    match k, hk, q with
    | 0, _, q => simp [J1, uI_at]; rw [q]; rfl
    | 1, _, q => simp [J1, uI_at]; rw [q]; rfl
    | 2, _, q => simp [J1, uI_at]; rw [q]; rfl
    | 3, _, q => simp [J1, uI_at, vv]
    | 4, _, q => simp [J1, uI_at]; rw [q]; rfl
    | 5, _, q => simp [J1, uI_at]; rw [q]; rfl
    | 6, _, q => simp [J1, uI_at, vv]
    | 7, _, q => simp [J1, uI_at]; rw [q]; rfl
    | 8, _, q => simp [J1, uI_at]; rw [q]; rfl
    | n + 9, z, _ => omega
  obtain ⟨K, e2, f2⟩ := m_law d (L := L) h (k := 3) (by omega) f1 hJ1 (pl := sta P (20 + a)) (by show _ = J1 417 6; rw [hJ1 6 (by omega)]; rfl)
  refine ⟨K, ?_, f2⟩
  have i1 : zin (nI (7 * v + a)) 14 = True := ixT (by omega) (by omega)
  have i2 : zix (nI (7 * v + a)) = 7 * v + a := ixI (by omega)
  have o1 : uI J 417 3 (sta P (10 + a)) 384 18 = nI v := (uI_off (by omega)).trans hJm.2.1
  have o2 : uI J 417 3 (sta P (10 + a)) 396 (7 * v + a) = sta P (20 + a) := (uI_off (by omega)).trans (hJm.2.2.2.2.2.2.2.2.1 a ha).2
  have o3 : uI (uI J 417 3 (sta P (10 + a))) 417 6 (sta P (20 + a)) 417 6 = sta P (20 + a) := uI_same _ _ _ _
  rw [E_X12_paysBy]
  simp only [B_X12_paysBy_0, gM G, if_true, e, bV_eq, true_and, zt9, zx, hJm.2.1, pk_mul, nI_add, i1, i2, (hJm.2.2.2.2.2.2.2.2.1 a ha).1, o1, o2, o3]
  rw [show uI (uI J 417 3 (sta P (10 + a))) 417 6 (sta P (20 + a)) = J1 from rfl, e2]
  simp only [bI_eq, if_true, m_held]
  rfl
theorem m_handsFree (d : Nat) {S : mS} {I : mI} {L : mJ} (G : Gd S) : ∃ J, evM zcod (d + 1) 212 [.ref 384] (S, I, L) = some (none, (S, J, L)) ∧ (∀ k, k < 5 → J 421 k = nI 0) ∧ Fi (fun a _ => a = 421) I J := by
  have key : ∀ k i, i + k = 5 → ∀ I : mI, (∀ j, j < i → I 421 j = nI 0) → ∃ J, evk zcod none d zc_X12_handsFree 2 [(0, .ref 384), (1, .int (nI i))] [] (S, I, L) = some (none, (S, J, L)) ∧ (∀ k, k < 5 → J 421 k = nI 0) ∧ Fi (fun a _ => a = 421) I J := by
    intro k
    induction k with
    | zero =>
      intro i hi I hj
      refine ⟨I, ?_, fun k hk => hj k (by omega), Fi.rf⟩
      rw [B_X12_handsFree_2, if_pos (nI_le (by omega) (by omega)), B_X12_handsFree_20]
    | succ k ih =>
      intro i hi I hj
      obtain ⟨J, e, z1, z2⟩ := ih (i + 1) (by omega) (uI I 421 i (nI 0)) (fun j q => by
        by_cases w : j = i
        · rw [w]; exact uI_same _ _ _ _
        · rw [uI_ix w]; exact hj j (by omega))
      refine ⟨J, ?_, z1, (Fi.u (A := fun a _ => a = 421) Fi.rf rfl).tr z2⟩
      rw [B_X12_handsFree_2, if_neg (nI_ge (by omega) (by omega))]
      simp only [gM G, if_true, true_and]
      rw [if_pos (ixP (by omega) (by omega)), ixI (by omega), nI_add]
      exact e
  obtain ⟨J, e, z⟩ := key 5 0 (by omega) I (fun j q => by omega)
  refine ⟨J, ?_, z⟩
  rw [← e, E_X12_handsFree, B_X12_handsFree_0]
theorem m_hookAt (d : Nat) {S : mS} {I : mI} {L : mJ} {P : mP} {v : Nat} {r : mW} (G : Gd S) (hv : PV P) (h : MC S I P v) (hr : RW I r) (x : Int32) {fr : Nat → Bool} (hf : ∀ k, k < nHo P → fr k = decide (I 421 k < sta P (50 + k))) : evM zcod (d + 2) 211 [.ref 384, .int x] (S, I, L) = some (some (.int (nhA P r x fr)), (S, I, L)) := by
  have v3 := hv.2.2.1
  have hv2 := h.1
  have key : ∀ k i, i + k = nHo P → evk zcod none (d + 1) zc_X12_hookAt 5 [(0, .ref 384), (1, .int x), (2, .int (nh P r x fr i)), (3, .int (nI i))] [] (S, I, L) = some (some (.int (nhA P r x fr)), (S, I, L)) := by
    intro k
    induction k with
    | zero =>
      intro i hi
      rw [B_X12_hookAt_5]
      simp only [gM G, if_true, true_and, h.2.1, zv2 h.1, h.2.2.2.2.1, B_X12_hookAt_106]
      rw [if_pos (nI_le (by omega) (by omega))]
      unfold nhA
      rw [show nHo P = i by omega]
    | succ k ih =>
      intro i hi
      have hiN : i < nHo P := by omega
      have i1 : zin (nI (5 * v + i)) 10 = True := ixT (by omega) (by omega)
      have i2 : zix (nI (5 * v + i)) = 5 * v + i := ixI (by omega)
      have i3 : zin (nI (50 + i)) 58 = True := ixT (by omega) (by omega)
      have i4 : zix (nI (50 + i)) = 50 + i := ixI (by omega)
      have i5 : zin (nI i) 5 = True := ixT (by omega) (by omega)
      have i6 : zix (nI i) = i := ixI (by omega)
      have hh := h.2.2.2.2.2.2.2.2.2.2.1 i hiN
      rw [B_X12_hookAt_5]
      simp only [gM G, if_true, true_and, h.2.1, zv2 h.1, h.2.2.2.2.1, nI_add, pk_mul, i1, i2, i3, i4, i5, i6, hr (50 + i) (by omega), m_off, bI_eq, hh, B_X12_hookAt_100]
      rw [if_neg (nI_ge hiN (by omega))]
      have en : nh P r x fr (i + 1) = if sta P (40 + i) < hoff (r (50 + i)) x ∨ fr i = false then nh P r x fr i else if nh P r x fr i < 0 ∨ hoff (r (50 + i)) x < hoff (r (50 + (nh P r x fr i).toInt.toNat)) x then nI i else nh P r x fr i := rfl
      by_cases c1 : sta P (40 + i) < hoff (r (50 + i)) x
      · rw [if_pos c1]
        have := ih (i + 1) (by omega)
        rw [en, if_pos (Or.inl c1)] at this
        exact this
      · rw [if_neg c1]
        by_cases c2 : I 421 i < sta P (50 + i)
        · rw [if_pos c2, B_X12_hookAt_76]
          have c3 : ¬ (sta P (40 + i) < hoff (r (50 + i)) x ∨ fr i = false) := by
            rintro (q | q)
            · exact c1 q
            · rw [hf i hiN, decide_eq_true c2] at q; cases q
          rw [if_neg c3] at en
          have n0 : (nI 0 : Int32) = 0 := nI_0
          rcases nh_or P r x fr i with e | ⟨b, hb, e⟩
          · rw [e, if_pos (by rw [n0]; exact m2_neg), B_X12_hookAt_98, B_X12_hookAt_100, nI_add]
            have := ih (i + 1) (by omega)
            rw [en, e, if_pos (Or.inl m2_neg)] at this
            exact this
          · rw [e, if_neg (nI_nlt (by omega) (by omega))]
            have i7 : zin (nI (50 + b)) 58 = True := ixT (by omega) (by omega)
            have i8 : zix (nI (50 + b)) = 50 + b := ixI (by omega)
            simp only [gM G, if_true, true_and, nI_add, i7, i8, hr (50 + b) (by omega), m_off, bI_eq, B_X12_hookAt_98, B_X12_hookAt_100]
            rw [e, t_nI (by omega), Int.toNat_natCast] at en
            have := ih (i + 1) (by omega)
            by_cases c4 : hoff (r (50 + b)) x ≤ hoff (r (50 + i)) x
            · rw [if_pos c4]
              rw [en, if_neg (by
                rintro (q | q)
                · exact nI_nneg (by omega) q
                · rw [i_lt] at q; rw [i_le] at c4; omega)] at this
              exact this
            · rw [if_neg c4]
              rw [en, if_pos (Or.inr (by rw [i_lt]; rw [i_le] at c4; omega))] at this
              exact this
        · rw [if_neg c2]
          have := ih (i + 1) (by omega)
          rw [en, if_pos (Or.inr (by rw [hf i hiN, decide_eq_false c2]))] at this
          exact this
  rw [E_X12_hookAt, B_X12_hookAt_0]
  exact key (nHo P) 0 (by omega)
