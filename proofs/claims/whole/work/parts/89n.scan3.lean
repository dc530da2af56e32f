/-! tokens: the whole scan, class side -/
def TKS (c : Nat → Nat) (tp : Nat) (K P : Nat → Int32) (N : Nat → Int64) (e : Nat → Nat) : Prop := e 0 = 0 ∧ ∀ k, k ≤ 400 → TK1 c tp (e k) (K k) (P k) (N k) (e (k + 1))
def scA (a j : Nat) : Prop := a = 32 ∧ (4 ≤ j ∧ j ≤ 7) ∨ a = 34 ∨ a = 35
theorem sgF_sc {u a j : Nat} (h : sgF u a j) : scA a j := by unfold sgF at h; unfold scA; omega
theorem s_scan (d : Nat) {S : mS} {I : mI} {L : mJ} (G : Gd S) (hW : WCL L) {tp : Nat} (htp : tp ≤ 2000) (h0 : ∀ t, 401 ≤ t → I 34 t = nI 0) : ∃ J L' e, evM zcod (d + 9) 36 [.ref 32, .ref 8, .int (nI tp)] (S, I, L) = some (none, (uR S 32 5 8, J, L')) ∧ Fi scA I J ∧ (∀ a j, ¬ a = 36 → L' a j = L a j) ∧ J 32 4 = nI 401 ∧ TKS (bC (I 8) tp) tp (J 34) (J 35) (L' 36) e ∧ ∀ t, 401 ≤ t → J 34 t = nI 0 := by
  obtain ⟨G', z⟩ := G.tape
  have key : ∀ n i (I' : mI) (L' : mJ) (e : Nat → Nat), i + n = 401 → Fi scA I I' → (∀ a j, ¬ a = 36 → L' a j = L a j) → I' 32 4 = nI i → I' 32 6 = nI tp → I' 32 7 = nI (e i) → e i ≤ tp → e 0 = 0 → (∀ k, k < i → TK1 (bC (I 8) tp) tp (e k) (I' 34 k) (I' 35 k) (L' 36 k) (e (k + 1))) → (∀ t, 401 ≤ t → I' 34 t = nI 0) → ∃ J L2 e2, evk zcod none (d + 8) zc_X10_scan 27 [(0, .ref 32), (3, .int (nI i))] [] (uR S 32 5 8, I', L') = some (none, (uR S 32 5 8, J, L2)) ∧ Fi scA I J ∧ (∀ a j, ¬ a = 36 → L2 a j = L a j) ∧ J 32 4 = nI 401 ∧ TKS (bC (I 8) tp) tp (J 34) (J 35) (L2 36) e2 ∧ ∀ t, 401 ≤ t → J 34 t = nI 0 := by
    intro n
    induction n with
    | zero =>
      intro i I' L' e hi f lo h4 h6 h7 he e0 hk h401
      have i401 : i = 401 := by omega
      subst i401
      refine ⟨I', L', e, ?_, f, lo, h4, ⟨e0, fun k hk' => hk k (by omega)⟩, h401⟩
      rw [B_X10_scan_27]
      simp only [gRd G', if_true]
      rw [if_pos (nI_le (by omega) (by omega)), B_X10_scan_46]
    | succ n ih =>
      intro i I' L' e hi f lo h4 h6 h7 he e0 hk h401
      have r8 : I' 8 = I 8 := f.row 8 fun j => by unfold scA; omega
      obtain ⟨k, p, nn, e1, J, w, fj, b1, b2, b3, b4, b5, b6⟩ := s_scanOne (d + 1) (I := I') (L := L') G' z (fun w hw => (lo 33 w (by omega)).trans (hW w hw)) htp h6 h7 he h4 (by omega)
      rw [r8] at b6
      let e' : Nat → Nat := fun j => if j ≤ i then e j else e1
      have ei : ∀ j, j ≤ i → e' j = e j := fun j hj => if_pos hj
      have ei1 : e' (i + 1) = e1 := if_neg (by omega)
      have fj' : ∀ a j, ¬ sgF i a j → J a j = I' a j := fj
      obtain ⟨J2, L2, e2, w2, r⟩ := ih (i + 1) J (uL L' 36 i nn) e' (by omega) (f.tr (fj.up fun _ _ => sgF_sc)) (fun a j ha => (uL_off ha).trans (lo a j ha)) b3 ((fj' _ _ (by unfold sgF; omega)).trans h6) (by rw [ei1]; exact b1) (by rw [ei1]; exact b2) ((ei 0 (by omega)).trans e0) (fun j hj => by
        by_cases c : j = i
        · subst c
          rw [ei j (Nat.le_refl _), ei1, b4, b5, uL_at, if_pos ⟨rfl, rfl⟩]
          exact b6
        · have hj' : j < i := by omega
          rw [ei j (by omega), ei (j + 1) (by omega), fj' 34 j (by unfold sgF; omega), fj' 35 j (by unfold sgF; omega), uL_at, if_neg (fun z => c z.2)]
          exact hk j hj') (fun t ht => (fj' 34 t (by unfold sgF; omega)).trans (h401 t ht))
      refine ⟨J2, L2, e2, ?_, r⟩
      rw [B_X10_scan_27]
      simp only [gRd G', if_true]
      rw [if_neg (nI_ge (by omega) (by omega))]
      simp only [w, bV_eq, if_true, nI_add]
      exact w2
  have f0 : Fi scA I (uI (uI (uI I 32 6 (nI tp)) 32 7 (nI 0)) 32 4 (nI 0)) := Fi.u (Fi.u (Fi.u Fi.rf (Or.inl ⟨rfl, by omega, by omega⟩)) (Or.inl ⟨rfl, by omega, by omega⟩)) (Or.inl ⟨rfl, by omega, by omega⟩)
  obtain ⟨J, L', e, w, r⟩ := key 401 0 (uI (uI (uI I 32 6 (nI tp)) 32 7 (nI 0)) 32 4 (nI 0)) L (fun _ => 0) rfl f0 (fun _ _ _ => rfl) (uI_same _ _ _ _) ((uI_ix (by omega)).trans ((uI_ix (by omega)).trans (uI_same _ _ _ _))) ((uI_ix (by omega)).trans (uI_same _ _ _ _)) (Nat.zero_le _) rfl (fun k hk => by omega) (fun t ht => (uI_off (by omega)).trans ((uI_off (by omega)).trans ((uI_off (by omega)).trans (h0 t ht))))
  refine ⟨J, L', e, ?_, r⟩
  have e275 : evM zcod (d + 8) 275 [.int (nI tp), .int (nI 2000)] (uR S 32 5 8, I, L) = some (some (.int (nI tp)), (uR S 32 5 8, I, L)) := by
    rw [s_min (d + 7), if_neg (nI_nlt htp (by omega))]
  have lt8 : (8 : Nat) < S.1 + 7 := by rw [G.1]; omega
  rw [E_X10_scan, B_X10_scan_0]
  simp only [gRd G, gTop G', if_true, true_and, lt8, e275, bI_eq, gRd G']
  rw [B_X10_scan_20]
  simp only [gRd G', if_true]
  exact w
/-! what the tokens keep to -/
theorem TK1.le {c : Nat → Nat} {tp e0 : Nat} {k p : Int32} {n : Int64} {e1 : Nat} (h : TK1 c tp e0 k p n e1) : ∃ q, e0 ≤ q ∧ p = nI q ∧ q ≤ e1 ∧ q ≤ tp ∧ (¬ k = nI 0 → q < e1) := by
  obtain ⟨q, h1, h2, _, h4, ⟨a, b, e⟩ | ⟨a, _, ⟨m, m1, _, _, _, e, _⟩ | ⟨m, m1, _, _, _, e, _⟩ | ⟨_, _, e, _⟩⟩⟩ := h
  · exact ⟨q, h1, h4, by omega, h2, fun z => absurd b z⟩
  · exact ⟨q, h1, h4, by omega, h2, fun _ => by omega⟩
  · exact ⟨q, h1, h4, by omega, h2, fun _ => by omega⟩
  · exact ⟨q, h1, h4, by omega, h2, fun _ => by omega⟩
theorem kk_in : (∀ w, w < 22 → 128 + w ∈ kKs) ∧ (0 ∈ kKs ∧ 1 ∈ kKs ∧ 2 ∈ kKs ∧ 3 ∈ kKs) ∧ ∀ n, n < 62 → isGn n → n ∈ kKs := by decide +kernel
theorem TK1.ok {c : Nat → Nat} {tp e0 : Nat} {k p : Int32} {n : Int64} {e1 : Nat} (h : TK1 c tp e0 k p n e1) : KOK k ∧ (k = nI 3 → nI 0 ≤ n.toInt32) := by
  obtain ⟨q, h1, h2, _, h4, ⟨a, b, e⟩ | ⟨a, _, ⟨m, m1, _, _, _, e, r⟩ | ⟨m, m1, _, dg, _, e, r⟩ | ⟨_, _, e, r⟩⟩⟩ := h
  · exact ⟨⟨0, kk_in.2.1.1, b⟩, fun z => by rw [b] at z; exact absurd z (by decide +kernel)⟩
  · rcases r with ⟨_, r⟩ | ⟨_, _, ⟨w, hw, _, r⟩ | ⟨_, r⟩⟩
    · exact ⟨⟨1, kk_in.2.1.2.1, r⟩, fun z => by rw [r] at z; exact absurd z (by decide +kernel)⟩
    · exact ⟨⟨_, kk_in.1 w hw, r⟩, fun z => by rw [r] at z; exact absurd z (n_ne (by omega) (by omega) (by omega))⟩
    · exact ⟨⟨2, kk_in.2.1.2.2.1, r⟩, fun z => by rw [r] at z; exact absurd z (by decide +kernel)⟩
  · rcases r with ⟨_, r⟩ | ⟨m4, r, v⟩
    · exact ⟨⟨1, kk_in.2.1.2.1, r⟩, fun z => by rw [r] at z; exact absurd z (by decide +kernel)⟩
    · refine ⟨⟨3, kk_in.2.1.2.2.2, r⟩, fun _ => ?_⟩
      have lt : dv c q m < 10000 := Nat.lt_of_lt_of_le (dv_lt dg) (Nat.pow_le_pow_right (by omega) m4)
      rw [v, Int32.toInt32_toInt64]
      exact nI_le (Nat.zero_le _) (by omega)
  · by_cases g : isGn (c q)
    · rw [if_pos g] at r
      have lt : c q < 62 := by omega
      exact ⟨⟨_, kk_in.2.2 _ lt g, r⟩, fun z => by rw [r] at z; exact absurd z (n_ne (by omega) (by omega) (by omega))⟩
    · rw [if_neg g] at r
      exact ⟨⟨1, kk_in.2.1.2.1, r⟩, fun z => by rw [r] at z; exact absurd z (by decide +kernel)⟩
theorem TKS.po {c : Nat → Nat} {tp : Nat} (htp : tp ≤ 2000) {K P : Nat → Int32} {N : Nat → Int64} {e : Nat → Nat} (h : TKS c tp K P N e) : PO K P := by
  intro i j hij hj hn
  have key : ∀ n, i + n + 1 ≤ 400 → NE K (i + n + 1) → ∃ q q', P i = nI q ∧ P (i + n + 1) = nI q' ∧ q < q' ∧ q' ≤ 2000 ∧ q' ≤ e (i + n + 2) := by
    intro n
    induction n with
    | zero =>
      intro h1 h2
      obtain ⟨q, a1, a2, a3, a4, a5⟩ := (h.2 i (by omega)).le
      obtain ⟨q', b1, b2, b3, b4, b5⟩ := (h.2 (i + 1) (by omega)).le
      have := a5 (h2 i (by omega))
      exact ⟨q, q', a2, b2, by omega, by omega, b3⟩
    | succ n ih =>
      intro h1 h2
      obtain ⟨q, q', c1, c2, c3, c4, c5⟩ := ih (by omega) (h2.lo (by omega))
      obtain ⟨q2, b1, b2, b3, b4, b5⟩ := (h.2 (i + (n + 1) + 1) (by omega)).le
      exact ⟨q, q2, c1, b2, by have : i + n + 2 = i + (n + 1) + 1 := by omega
                               rw [this] at c5
                               omega, by omega, b3⟩
  obtain ⟨n, rfl⟩ : ∃ n, j = i + n + 1 := ⟨j - i - 1, by omega⟩
  obtain ⟨q, q', c1, c2, c3, c4, _⟩ := key n hj hn
  rw [c1, c2]
  exact nI_lt c3 (by omega)
