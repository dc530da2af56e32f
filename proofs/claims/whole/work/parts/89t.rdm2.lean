/-! read, reference side: all statements, the whole -/
theorem is_0 : 0 ∈ kKs ∧ gkN 0 = 0 := by decide +kernel
theorem m_text {S : mS} {K V P : Nat → Int32} {N : Nat → Int64} (G : Gd S) (o : PO K P) {v : Nat} (hv : v < 2) : ∀ (n d : Nat) (I : mI) (L : mJ) (t : Nat) (T : mTx) (res : TR), TX K V N n t T res → TKM I K V P → NR K N L → MSt I K P (t, 0) → DRM I L P v t T → TOK K t T → ∃ J L', evk zcod none (d + 8) zc_X12_read 112 [(0, .ref 384)] [] (S, I, L) = evk zcod none (d + 8) zc_X12_read 134 [(0, .ref 384)] [] (S, J, L') ∧ Fi (rfF v) I J ∧ (∀ a j, ¬ a = 392 → L' a j = L a j) ∧ OnR J L' K P v res := by
  intro n
  induction n with
  | zero =>
    intro d I L t T res hx k nr h hD hT
    obtain ⟨k0, rfl⟩ := hx
    obtain ⟨hm, ho⟩ := h.ms rfl
    have hm' : MS I K t := hm
    have ki := m_is (d + 7) (L := L) G k hm' 0 is_0.1 is_0.2
    refine ⟨I, L, ?_, Fi.rf, fun _ _ _ => rfl, h, hD⟩
    rw [B_X12_read_112]
    simp only [gM G, if_true, hm'.2.2.1, not_true, if_false, ki, bI_eq, k0, z10, not_false_iff]
  | succ n ih =>
    intro d I L t T res hx k nr h hD hT
    obtain ⟨hm, ho⟩ := h.ms rfl
    have hm' : MS I K t := hm
    have ki := m_is (d + 7) (L := L) G k hm' 0 is_0.1 is_0.2
    rcases hx with ⟨k0, rfl⟩ | ⟨k0, r, hr, hs⟩
    · refine ⟨I, L, ?_, Fi.rf, fun _ _ _ => rfl, h, hD⟩
      rw [B_X12_read_112]
      simp only [gM G, if_true, hm'.2.2.1, not_true, if_false, ki, bI_eq, k0, z10, not_false_iff]
    · obtain ⟨J, L1, e, f, lo, q⟩ := m_tellOne d (L := L) G k o nr hv h hD hT k0 hr
      have go : evk zcod none (d + 8) zc_X12_read 112 [(0, .ref 384)] [] (S, I, L) = evk zcod none (d + 8) zc_X12_read 112 [(0, .ref 384)] [] (S, J, L1) := by
        rw [B_X12_read_112]
        simp only [gM G, if_true, hm'.2.2.1, not_true, if_false, ki, bI_eq, k0, e, bV_eq]
      rcases hs with ⟨s, rfl, rfl⟩ | ⟨t', T', rfl, hx'⟩
      · refine ⟨J, L1, go.trans ?_, f, lo, q⟩
        match s, q with
        | (t', f'), q =>
          have q' : MF J P t' f' := q
          rw [B_X12_read_112]
          simp only [gM G, if_true, q'.n0, not_false_iff]
      · obtain ⟨q1, q2⟩ := q
        obtain ⟨lt, le, ok⟩ := STX.ok k.2.2 hm'.1 hr hT
        have kJ : TKM J K V P := k.fi f fun a x y j => by unfold rfF; omega
        have nrJ : NR K N L1 := fun i j a b c e g w => by rw [lo 390 i (by omega), lo 390 j (by omega)]; exact nr i j a b c e g w
        obtain ⟨J2, L2, e2, f2, lo2, r2⟩ := ih d J L1 t' T' res hx' kJ nrJ q1 q2 ok
        exact ⟨J2, L2, go.trans e2, f.tr f2, fun a j ha => (lo2 a j ha).trans (lo a j ha), r2⟩
theorem ZM.sw {S S' : mS} {I : mI} {P : mP} {v : Nat} {r : mW} {H : Nat → mW} {dp : Nat} {Q : Nat → mW} {hd : Nat → Bool} {T : Nat → Nat → Int32} {nt : Nat} (h : ZM S I P v r H dp Q hd T nt) (G' : Gd S') (pl : PLM I P v) : ZM S' I P v r H dp Q hd T nt := by
  obtain ⟨h1, h2, ⟨a1, a2, a3, a4, a5, a6, a7, a8, a9, a10, a11, _⟩, h4⟩ := h
  exact ⟨h1, h2, ⟨a1, a2, a3, a4, a5, a6, a7, a8, a9, a10, a11, pl.law G'⟩, h4⟩
/-- what a read on the other side may touch -/
def rdF (v a j : Nat) : Prop := a = 384 ∧ (j = 2 ∨ j = 4 ∨ 10 ≤ j ∧ j ≤ 17 ∨ j = 19 ∨ j = 20 ∨ j = 38 ∨ j = 44 ∨ j = 48) ∨ 386 ≤ a ∧ a ≤ 389 ∨ ¬ a = 384 ∧ rfF v a j
theorem rfF_rd {v a j : Nat} (h : rfF v a j) : rdF v a j := by
  by_cases c : a = 384
  · rcases h with ⟨_, h⟩ | h
    · exact Or.inl ⟨c, by omega⟩
    · exfalso
      omega
  · exact Or.inr (Or.inr ⟨c, h⟩)
theorem MC.rd {S : mS} {I J : mI} {P : mP} {v : Nat} (h : MC S I P v) (pl : PLM I P v) (G : Gd S) (pv : PV P) (f : Fi (rdF (1 - v)) I J) : MC S J P v ∧ PLM J P v := by
  obtain ⟨a1, a2, a3, a4, a5, a6, a7, a8, a9, a10, a11, _⟩ := h
  obtain ⟨b1, b2, b3⟩ := pl
  have hv : v = 0 ∨ v = 1 := by omega
  have e18 : J 384 18 = I 384 18 := f _ _ (by unfold rdF; omega)
  have one : ∀ a, (a = 393 ∨ a = 397 ∨ a = 400 ∨ a = 404 ∨ a = 405 ∨ a = 406) → J a v = I a v := by
    intro a ha
    refine f _ _ ?_
    rcases hv with c | c <;> subst c <;> (unfold rdF rfF; omega)
  have p : PLM J P v := by
    refine PLM.cg ⟨b1, b2, b3⟩ e18 (fun a j ha h1 h2 => f _ _ ?_) (fun a h1 h2 j h3 h4 => f _ _ ?_) (fun j h3 h4 => ⟨f _ _ ?_, f _ _ ?_⟩)
    · rcases hv with c | c <;> subst c <;> (unfold rdF rfF; omega)
    · rcases hv with c | c <;> subst c <;> (unfold rdF rfF; omega)
    · rcases hv with c | c <;> subst c <;> (unfold rdF rfF; omega)
    · rcases hv with c | c <;> subst c <;> (unfold rdF rfF; omega)
  have r7 : ∀ a i, (a = 395 ∨ a = 396) → i < 7 → J a (7 * v + i) = I a (7 * v + i) := by
    intro a i ha hi
    refine f _ _ ?_
    rcases hv with c | c <;> subst c <;> (unfold rdF rfF; omega)
  have r5 : ∀ a i, (a = 398 ∨ a = 402 ∨ a = 403) → i < 5 → J a (5 * v + i) = I a (5 * v + i) := by
    intro a i ha hi
    refine f _ _ ?_
    rcases hv with c | c <;> subst c <;> (unfold rdF rfF; omega)
  obtain ⟨p1, p2, p3, _⟩ := pv
  exact ⟨⟨a1, e18.trans a2, (one _ (by omega)).trans a3, (one _ (by omega)).trans a4, (one _ (by omega)).trans a5, (one _ (by omega)).trans a6, (one _ (by omega)).trans a7, (one _ (by omega)).trans a8, fun i hi => ⟨(r7 _ i (by omega) (by omega)).trans (a9 i hi).1, (r7 _ i (by omega) (by omega)).trans (a9 i hi).2⟩, fun k hk => (r5 _ k (by omega) (by omega)).trans (a10 k hk), fun k hk => ⟨(r5 _ k (by omega) (by omega)).trans (a11 k hk).1, (r5 _ k (by omega) (by omega)).trans (a11 k hk).2⟩, p.law G⟩, p⟩
theorem ZM.rd {S : mS} {I J : mI} {P : mP} {v : Nat} {r : mW} {H : Nat → mW} {dp : Nat} {Q : Nat → mW} {hd : Nat → Bool} {T : Nat → Nat → Int32} {nt : Nat} (h : ZM S I P v r H dp Q hd T nt) (pl : PLM I P v) (G : Gd S) (f : Fi (rdF (1 - v)) I J) : ZM S J P v r H dp Q hd T nt ∧ PLM J P v := by
  obtain ⟨h1, h2, h3, h4, h5, h6, h7, h8, h9⟩ := h
  obtain ⟨m, p⟩ := h3.rd pl G h1 f
  have hi : ∀ a j, 417 ≤ a → J a j = I a j := fun a j ha => f a j (by unfold rdF rfF; omega)
  exact ⟨⟨h1, h2, m, fun j hj => (hi _ _ (by omega)).trans (h4 j hj), h5.cg (fun j => hi _ _ (by omega)) (f _ _ (by unfold rdF; omega)), h6.cg (fun j => hi _ _ (by omega)) (fun j => hi _ _ (by omega)), h7, h8.cg (f _ _ (by unfold rdF; omega)) (fun x j p q => hi _ _ (by omega)), h9⟩, p⟩
theorem sd01 : ∀ v, v < 2 → nI 1 - nI v = nI (1 - v) := by decide +kernel
theorem q_read (d : Nat) {S : mS} {I : mI} {L : mJ} {P : mP} {v : Nat} {r : mW} {H : Nat → mW} {dp : Nat} {Q : Nat → mW} {hd : Nat → Bool} {T : Nat → Nat → Int32} {nt tp : Nat} {fp : Int32} {B : Nat → Int32} (G : Gd S) (h : ZM S I P v r H dp Q hd T nt) (hx : XM I tp fp B) (hr : RM I L P v) {K Pl : Nat → Int32} {N : Nat → Int64} {e : Nat → Nat} {res : TR} (t1 : TKS (bC B tp) tp K Pl N e) (t2 : ∀ t, 401 ≤ t → K t = nI 0) (t3 : TX K (fun t => (N t).toInt32) N 401 0 tx0 res) (ok : ResOK K res) : ∃ J L', evM zcod (d + 50) 173 [.ref 384] (S, I, L) = some (some (.int (RAns Pl res).1), (S, J, L')) ∧ Fi (fun a _ => 384 ≤ a) I J ∧ (∀ a j, ¬ a = 390 → ¬ a = 392 → L' a j = L a j) ∧ XM J 0 (RAns Pl res).2 B ∧ ((∀ T', ¬ GoodT T' res) → ZM S J P v r H dp Q hd T nt ∧ RM J L' P v) ∧ ∀ T', GoodT T' res → ∃ v', ZM S J (P0 T') v' (r0 T') H 0 Q (fun _ => false) T 0 ∧ RM J L' (P0 T') v' := by
  obtain ⟨hW, pl⟩ := hr
  obtain ⟨htp, x1, x2, x3⟩ := hx
  have hv : v < 2 := pl.1
  have h18 : I 384 18 = nI v := pl.2.1
  have po := t1.po htp
  -- the text copied
  obtain ⟨J1, e1, f1, c1⟩ := m_copyText (d + 49) (S := S) (L := L) G htp tp 0 (uI I 384 4 (nI tp)) (by omega) (uI_same _ _ _ _)
  let J2 := uI J1 384 2 (nI 0)
  have j1 : ∀ a j, ¬ a = 386 → ¬ (a = 384 ∧ j = 4) → J1 a j = I a j := fun a j p q => (f1 a j (by omega)).trans (by rw [uI_at]; exact if_neg q)
  have f2 : Fi (rdF (1 - v)) I J2 := by
    intro a j q
    have q1 : ¬ (a = 384 ∧ j = 2) := fun z => q (Or.inl ⟨z.1, Or.inl z.2⟩)
    have q2 : ¬ (a = 384 ∧ j = 4) := fun z => q (Or.inl ⟨z.1, Or.inr (Or.inl z.2)⟩)
    have q3 : ¬ a = 386 := fun z => q (Or.inr (Or.inl ⟨by omega, by omega⟩))
    show uI J1 384 2 (nI 0) a j = _
    rw [uI_at, if_neg q1]
    exact j1 a j q3 q2
  have tx : TXT J2 (bC B tp) tp := by
    refine ⟨htp, (uI_ix (by omega)).trans ((f1 384 4 (by omega)).trans (uI_same _ _ _ _)), fun j hj => ?_, fun j hj => bC_out hj, fun j => bC_lt B tp j⟩
    have ej : J2 386 j = (I 385 j).toInt8.toInt32 := (uI_off (by omega)).trans ((c1 j (Nat.zero_le _) hj).trans (by rw [show uI I 384 4 (nI tp) 385 j = I 385 j from uI_off (by omega)]))
    rw [ej, i8_and, x3 j hj]
    unfold bC
    rw [if_pos hj]
  obtain ⟨J3, L3, e3, f3, lo3, mt⟩ := m_cut (d + 45) (L := L) G hW tx t1
  have nr3 := mt.nr
  have km3 := mt.tkm t1 t2
  let J4 := uI (uI J3 384 11 (nI 0)) 384 12 (nI 0)
  let J5 := uI (uI (uI (uI J4 384 13 (nI 0)) 384 15 (nI 0)) 384 19 (nI (1 - v))) 384 20 (nI 0)
  have j3_18 : J3 384 18 = nI v := (f3 _ _ (by unfold cuF; omega)).trans ((uI_ix (by omega)).trans ((j1 _ _ (by omega) (by omega)).trans h18))
  have s18 : uI (uI J4 384 13 (nI 0)) 384 15 (nI 0) 384 18 = nI v := (uI_ix (by omega)).trans ((uI_ix (by omega)).trans ((uI_ix (by omega)).trans ((uI_ix (by omega)).trans j3_18)))
  have v1 : 1 - v < 2 := by omega
  obtain ⟨J6, e6, f6, ⟨p1, p2, p3⟩, ⟨p4, p5, p6⟩, p7⟩ := m_plain (d + 48) (I := J5) (L := L3) G v1
  let J7 := uI (uI J6 384 38 (nI (130 * (1 - v)))) 384 44 (nI (420 * (1 - v)))
  have r5 : ∀ j, J6 384 j = J5 384 j := fun j => f6 _ _ (by omega)
  have i19 : J6 384 19 = nI (1 - v) := (r5 19).trans ((uI_ix (by omega)).trans (uI_same _ _ _ _))
  have i19' : uI J6 384 38 (nI (130 * (1 - v))) 384 19 = nI (1 - v) := (uI_ix (by omega)).trans i19
  have w112 : evM zcod (d + 50) 173 [.ref 384] (S, I, L) = evk zcod none (d + 49) zc_X12_read 112 [(0, .ref 384)] [] (S, J7, L3) := by
    rw [E_X12_read, B_X12_read_0]
    simp only [gM G, if_true, x1]
    rw [e1, B_X12_read_36]
    simp only [gM G, if_true]
    rw [show uI J1 384 2 (nI 0) = J2 from rfl, e3]
    simp only [bV_eq, if_true]
    rw [B_X12_read_55]
    simp only [gM G, if_true]
    rw [show uI (uI J3 384 11 (nI 0)) 384 12 (nI 0) = J4 from rfl, s18, sd01 v hv, B_X12_read_80]
    simp only [gM G, if_true]
    rw [show uI (uI (uI (uI J4 384 13 (nI 0)) 384 15 (nI 0)) 384 19 (nI (1 - v))) 384 20 (nI 0) = J5 from rfl, show J5 384 19 = nI (1 - v) from (uI_ix (by omega)).trans (uI_same _ _ _ _), e6]
    simp only [bV_eq, if_true, i19, pk_mul, i19']
    simp only [gM G, if_true]
    rfl
  have k7 : ∀ a j, ¬ a = 384 → J7 a j = J6 a j := fun a j q => (uI_off q).trans (uI_off q)
  have k73 : ∀ a j, ¬ a = 384 → 386 ≤ a → a ≤ 392 → J7 a j = J3 a j := fun a j q r1 r2 => (k7 a j q).trans ((f6 _ _ (by omega)).trans ((uI_off q).trans ((uI_off q).trans ((uI_off q).trans ((uI_off q).trans ((uI_off q).trans (uI_off q)))))))
  have at7 : J7 384 11 = nI 0 ∧ J7 384 12 = nI 0 ∧ J7 384 13 = nI 0 ∧ J7 384 15 = nI 0 ∧ J7 384 19 = nI (1 - v) ∧ J7 384 20 = nI 0 ∧ J7 384 38 = nI (130 * (1 - v)) ∧ J7 384 44 = nI (420 * (1 - v)) := by
    have z : ∀ j, ¬ j = 38 → ¬ j = 44 → J7 384 j = J5 384 j := fun j q1 q2 => (uI_ix q2).trans ((uI_ix q1).trans (r5 j))
    refine ⟨(z _ (by omega) (by omega)).trans ?_, (z _ (by omega) (by omega)).trans ?_, (z _ (by omega) (by omega)).trans ?_, (z _ (by omega) (by omega)).trans ?_, (z _ (by omega) (by omega)).trans ?_, (z _ (by omega) (by omega)).trans ?_, (uI_ix (by omega)).trans (uI_same _ _ _ _), uI_same _ _ _ _⟩
    · exact (uI_ix (by omega)).trans ((uI_ix (by omega)).trans ((uI_ix (by omega)).trans ((uI_ix (by omega)).trans ((uI_ix (by omega)).trans (uI_same _ _ _ _)))))
    · exact (uI_ix (by omega)).trans ((uI_ix (by omega)).trans ((uI_ix (by omega)).trans ((uI_ix (by omega)).trans (uI_same _ _ _ _))))
    · exact (uI_ix (by omega)).trans ((uI_ix (by omega)).trans ((uI_ix (by omega)).trans (uI_same _ _ _ _)))
    · exact (uI_ix (by omega)).trans ((uI_ix (by omega)).trans (uI_same _ _ _ _))
    · exact (uI_ix (by omega)).trans (uI_same _ _ _ _)
    · exact uI_same _ _ _ _
  obtain ⟨a11, a12, a13, a15, a19, a20, a38, a44⟩ := at7
  have km7 : TKM J7 K (fun t => (N t).toInt32) Pl := km3.cg fun a r1 r2 j => k73 a j (by omega) (by omega) (by omega)
  have ms7 : MSt J7 K Pl (0, 0) := Or.inl ⟨rfl, ⟨Nat.zero_le _, a11, a13, fun j hj => absurd hj (Nat.not_lt_zero _)⟩, a12⟩
  have dr7 : DRM J7 L3 Pl (1 - v) 0 tx0 := by
    refine ⟨a19, ⟨(k7 _ _ (by omega)).trans p1, fun i hi => absurd hi (Nat.not_lt_zero _)⟩, ⟨(k7 _ _ (by omega)).trans p2, fun i hi => absurd hi (Nat.not_lt_zero _)⟩, ⟨(k7 _ _ (by omega)).trans p3, fun i hi => absurd hi (Nat.not_lt_zero _)⟩, ⟨(k7 _ _ (by omega)).trans p4, (k7 _ _ (by omega)).trans p5, (k7 _ _ (by omega)).trans p6⟩, ⟨420 * (1 - v), 130 * (1 - v), a44, Nat.le_refl _, by omega, a38, Nat.le_refl _, by omega, fun k hk => ⟨0, 0, (k7 _ _ (by omega)).trans (p7 k hk).1, (k7 _ _ (by omega)).trans (p7 k hk).2, Nat.zero_le _, Or.inl ⟨rfl, rfl⟩⟩⟩, ⟨a20, fun i hi => absurd hi (Nat.not_lt_zero _)⟩, a15, fun z => absurd rfl z⟩
  obtain ⟨J8, L8, e8, f8, lo8, en⟩ := m_text (S := S) (N := N) G po v1 401 (d + 41) J7 L3 0 tx0 res t3 km7 nr3 ms7 dr7 (tx0_ok K)
  have f37 : Fi (rdF (1 - v)) J2 J7 := by
    intro a j q
    have q0 : ¬ (a = 384 ∧ (10 ≤ j ∧ j ≤ 17 ∨ j = 19 ∨ j = 20 ∨ j = 38 ∨ j = 44)) := fun z => q (Or.inl ⟨z.1, by omega⟩)
    have q1 : ¬ (386 ≤ a ∧ a ≤ 389) := fun z => q (Or.inr (Or.inl z))
    by_cases c : a = 384
    · subst c
      have : ∀ x, x = 11 ∨ x = 12 ∨ x = 13 ∨ x = 15 ∨ x = 19 ∨ x = 20 ∨ x = 38 ∨ x = 44 → j ≠ x := fun x hx => by omega
      show uI (uI J6 384 38 _) 384 44 _ 384 j = _
      rw [uI_ix (this 44 (by omega)), uI_ix (this 38 (by omega)), r5]
      show uI (uI (uI (uI (uI (uI J3 384 11 _) 384 12 _) 384 13 _) 384 15 _) 384 19 _) 384 20 _ 384 j = _
      rw [uI_ix (this 20 (by omega)), uI_ix (this 19 (by omega)), uI_ix (this 15 (by omega)), uI_ix (this 13 (by omega)), uI_ix (this 12 (by omega)), uI_ix (this 11 (by omega))]
      exact f3 _ _ (by unfold cuF; omega)
    · have q2 : ¬ rfF (1 - v) a j := fun z => q (Or.inr (Or.inr ⟨c, z⟩))
      rw [k7 a j c, f6 a j (fun z => q2 (by rcases z with ⟨z1, z2⟩ | ⟨z1, z2, z3⟩
                                            · exact Or.inr (Or.inl ⟨z1, z2⟩)
                                            · exact Or.inr (Or.inr (Or.inr (Or.inr (Or.inl ⟨z1, z2, z3⟩))))))]
      show uI (uI (uI (uI (uI (uI J3 384 11 _) 384 12 _) 384 13 _) 384 15 _) 384 19 _) 384 20 _ a j = _
      rw [uI_off c, uI_off c, uI_off c, uI_off c, uI_off c, uI_off c]
      exact f3 _ _ (by unfold cuF; omega)
  have F8 : Fi (rdF (1 - v)) I J8 := (f2.tr f37).tr (f8.up fun _ _ => rfF_rd)
  have lo : ∀ a j, ¬ a = 390 → ¬ a = 392 → L8 a j = L a j := fun a j p q => (lo8 a j q).trans (lo3 a j p)
  have W8 : WML L8 := fun w hw => (lo 391 w (by omega) (by omega)).trans (hW w hw)
  have b8 : ∀ j, J8 385 j = I 385 j := fun j => F8 _ _ (by unfold rdF rfF; omega)
  have z2 : J8 384 2 = nI 0 := by
    rw [f8 _ _ (by unfold rfF; omega)]
    show uI (uI J6 384 38 _) 384 44 _ 384 2 = _
    rw [uI_ix (by omega), uI_ix (by omega), r5]
    show uI (uI (uI (uI (uI (uI J3 384 11 _) 384 12 _) 384 13 _) 384 15 _) 384 19 _) 384 20 _ 384 2 = _
    rw [uI_ix (by omega), uI_ix (by omega), uI_ix (by omega), uI_ix (by omega), uI_ix (by omega), uI_ix (by omega), f3 _ _ (by unfold cuF; omega)]
    exact uI_same _ _ _ _
  have w134 : evM zcod (d + 50) 173 [.ref 384] (S, I, L) = evk zcod none (d + 49) zc_X12_read 134 [(0, .ref 384)] [] (S, J8, L8) := w112.trans e8
  -- no good text: the place is kept, the fault is told
  have bad : ∀ x y, (RAns Pl res) = (x, y) → (∀ T', ¬ GoodT T' res) → evM zcod (d + 50) 173 [.ref 384] (S, I, L) = some (some (.int x), (S, uI J8 384 17 y, L8)) → ∃ J L', evM zcod (d + 50) 173 [.ref 384] (S, I, L) = some (some (.int (RAns Pl res).1), (S, J, L')) ∧ Fi (fun a _ => 384 ≤ a) I J ∧ (∀ a j, ¬ a = 390 → ¬ a = 392 → L' a j = L a j) ∧ XM J 0 (RAns Pl res).2 B ∧ ((∀ T', ¬ GoodT T' res) → ZM S J P v r H dp Q hd T nt ∧ RM J L' P v) ∧ ∀ T', GoodT T' res → ∃ v', ZM S J (P0 T') v' (r0 T') H 0 Q (fun _ => false) T 0 ∧ RM J L' (P0 T') v' := by
    intro x y exy ng w
    have F9 : Fi (rdF (1 - v)) I (uI J8 384 17 y) := F8.tr (Fi.u Fi.rf (Or.inl ⟨rfl, by omega⟩))
    obtain ⟨m1, m2⟩ := h.rd pl G F9
    refine ⟨uI J8 384 17 y, L8, by rw [exy]; exact w, F9.up fun a j z => by unfold rdF rfF at z; omega, lo, ⟨by omega, (uI_ix (by omega)).trans z2, by rw [exy]; exact uI_same _ _ _ _, fun j hj => absurd hj (Nat.not_lt_zero _)⟩, fun _ => ⟨m1, W8, m2⟩, fun T' gT => absurd gT (ng T')⟩
  match res, ok, en, bad with
  | Sum.inr (t, f), ok, en, bad =>
    have q : MF J8 Pl t f := en
    refine bad (nI f) (Pl t) rfl (fun T' z => z) ?_
    have n13 : ¬ nI f ≤ nI 0 := by
      rw [← q.1]
      exact q.gt
    have e13 : uI J8 384 17 (Pl t) 384 13 = nI f := (uI_ix (by omega)).trans q.1
    rw [w134, B_X12_read_134]
    simp only [gM G, if_true, q.gt, if_false, q.2.2]
    rw [B_X12_read_164]
    simp only [gM G, if_true, e13, n13, if_false]
  | Sum.inl (t, T'), ok, ⟨en1, en2⟩, bad =>
    obtain ⟨hm, ho⟩ := en1.ms rfl
    have hm' : MS J8 K t := hm
    obtain ⟨D1, D2, D3, D4, ⟨D5, D6, D7⟩, D8, D9, D10⟩ := en2
    have le13 : J8 384 13 ≤ nI 0 := by
      rw [hm'.2.2.1]
      exact Int32.le_refl _
    by_cases l0 : (tLt T').1 = 0
    · -- a good text
      have rans : RAns Pl (Sum.inl (t, T')) = (nI 0, -1) := by
        show (if (tLt T').1 = 0 then (nI 0, (-1 : Int32)) else _) = _
        rw [if_pos l0]
      have ok' : TOK K t T' := ok
      obtain ⟨o1, o2, o3, _⟩ := ok
      obtain ⟨pv, rv⟩ := P0_ok ok' l0
      let J9 := uI J8 384 17 (-1)
      let J10 := uI J9 384 18 (nI (1 - v))
      have k10 : ∀ a j, ¬ a = 384 → J10 a j = J8 a j := fun a j q => (uI_off q).trans (uI_off q)
      have hL : ML J10 (1 - v) (tLo T') (tSt T') := D2.cg (k10 _ _ (by omega)) (fun a _ _ i _ => k10 _ _ (by omega)) fun _ _ => ⟨rfl, rfl, rfl⟩
      have hK : MK J10 (1 - v) (tSi T') (tSt T') := D3.cg (k10 _ _ (by omega)) (fun a _ _ i _ => k10 _ _ (by omega)) fun _ _ => ⟨rfl, rfl⟩
      have hH : MH J10 (1 - v) (tHo T') (tSt T') := D4.cg (k10 _ _ (by omega)) (fun a _ _ i _ => k10 _ _ (by omega)) fun _ _ => ⟨rfl, rfl, rfl⟩
      obtain ⟨J11, e11, rw11, f11⟩ := m_begins (d + 48) (S := S) (I := J10) (L := L8) G v1 (uI_same _ _ _ _) o1 o2 o3 hL hK hH
      obtain ⟨J12, e12, nw12, f12⟩ := m_keeps (d + 48) (L := L8) G rw11
      have k12 : ∀ a j, ¬ a = 419 → ¬ a = 420 → ¬ (a = 384 ∧ j = 54) → J12 a j = J10 a j := fun a j q1 q2 q3 => (f12 a j q1).trans (f11 a j (by omega))
      let J13 := uI (uI J12 384 59 (nI 0)) 384 74 (nI 0)
      have heldLoop : ∀ n i (M : mI), i + n = 3 → ∃ J, evk zcod none (d + 49) zc_X12_read 219 [(0, .ref 384), (1, .int (nI i))] [] (S, M, L8) = some (some (.int (nI 0)), (S, J, L8)) ∧ Fi (fun a j => a = 435 ∧ i ≤ j) M J ∧ ∀ k, i ≤ k → k < 3 → J 435 k = nI 0 := by
        intro n
        induction n with
        | zero =>
          intro i M hi
          refine ⟨M, ?_, Fi.rf, fun k h1 h2 => by omega⟩
          rw [B_X12_read_219, if_pos (nI_le (by omega) (by omega)), B_X12_read_237]
        | succ n ih =>
          intro i M hi
          have y : zin (nI i) 3 = True := ixT (by omega) (by omega)
          have yi : zix (nI i) = i := ixI (by omega)
          have n1 : (nI 0 &&& nI 1 : Int32) = nI 0 := by decide +kernel
          obtain ⟨J, e, f, q⟩ := ih (i + 1) (uI M 435 i (nI 0)) (by omega)
          refine ⟨J, ?_, (Fi.u (A := fun a j => a = 435 ∧ i ≤ j) Fi.rf ⟨rfl, Nat.le_refl _⟩).tr (f.up fun a j z => ⟨z.1, by omega⟩), fun k h1 h2 => ?_⟩
          · rw [B_X12_read_219, if_neg (nI_ge (by omega) (by omega))]
            simp only [gM G, if_true, true_and, y, yi, nI_add, n1]
            exact e
          · by_cases c : k = i
            · subst c
              exact (f 435 k (by omega)).trans (uI_same _ _ _ _)
            · exact q k (by omega) h2
      obtain ⟨J14, e14, f14, h14⟩ := heldLoop 3 0 J13 rfl
      have k14 : ∀ a j, ¬ a = 435 → ¬ a = 419 → ¬ a = 420 → ¬ (a = 384 ∧ (j = 54 ∨ j = 59 ∨ j = 74)) → J14 a j = J10 a j := fun a j q1 q2 q3 q4 => (f14 a j (by omega)).trans (by
        show uI (uI J12 384 59 (nI 0)) 384 74 (nI 0) a j = _
        rw [uI_at, if_neg (fun z => q4 ⟨z.1, by omega⟩), uI_at, if_neg (fun z => q4 ⟨z.1, by omega⟩)]
        exact k12 a j q2 q3 fun z => q4 ⟨z.1, by omega⟩)
      have k14' : ∀ a j, ¬ a = 384 → ¬ a = 435 → ¬ a = 419 → ¬ a = 420 → J14 a j = J8 a j := fun a j q0 q1 q2 q3 => (k14 a j q1 q2 q3 (by omega)).trans (k10 a j q0)
      have w : evM zcod (d + 50) 173 [.ref 384] (S, I, L) = some (some (.int (nI 0)), (S, J14, L8)) := by
        have le13' : uI J8 384 17 (-1) 384 13 ≤ nI 0 := by
          rw [uI_ix (by omega)]
          exact le13
        have e15 : J8 384 15 = nI 0 := D10.1.trans (by rw [l0])
        have e15' : uI J8 384 17 (-1) 384 15 = nI 0 := (uI_ix (by omega)).trans e15
        have e19 : uI J8 384 17 (-1) 384 19 = nI (1 - v) := (uI_ix (by omega)).trans D1
        rw [w134, B_X12_read_134]
        simp only [gM G, if_true, le13]
        rw [B_X12_read_149]
        simp only [gM G, if_true, e15, Int32.le_refl]
        rw [B_X12_read_163, B_X12_read_164]
        simp only [gM G, if_true, le13']
        rw [B_X12_read_179]
        simp only [gM G, if_true, e15', Int32.le_refl]
        rw [B_X12_read_191]
        simp only [gM G, if_true, e19]
        rw [show uI (uI J8 384 17 (-1)) 384 18 (nI (1 - v)) = J10 from rfl, e11]
        simp only [bV_eq, if_true, gM G, e12]
        rw [B_X12_read_212]
        simp only [gM G, if_true]
        exact e14
      obtain ⟨h1, h2, h3, h4, ⟨h5a, h5b, h5c⟩, h6, h7, h8, h9, h10⟩ := h
      have plm : PLM J14 (P0 T') (1 - v) := by
        obtain ⟨q, b, q1, q2, q3, q4, q5, q6, q7⟩ := D8
        refine ⟨v1, (k14 _ _ (by omega) (by omega) (by omega) (by omega)).trans (uI_same _ _ _ _), fun k hk => ?_⟩
        obtain ⟨fi, la, y1, y2, y3, y4⟩ := q7 k hk
        have ht := hm'.1
        refine ⟨fi, la, q, (tLw T' k).1, (tLw T' k).2, (k14' _ _ (by omega) (by omega) (by omega) (by omega)).trans y1, (k14' _ _ (by omega) (by omega) (by omega) (by omega)).trans y2, by omega, ?_, fun w => rfl, fun w => ?_⟩
        · rcases y4 with ⟨z1, z2⟩ | z1
          · exact Or.inl ⟨z1, fun w => by rw [z2]; exact dfl_w w k hk⟩
          · exact Or.inr ⟨z1.1, by omega, by omega, z1.2.cg fun a x y j => k14' a j (by omega) (by omega) (by omega) (by omega)⟩
        · rcases y4 with ⟨_, z2⟩ | z1
          · rw [z2]
            have x := dfW_ex k hk
            rw [x.1]
            show (evO (n9 w) _).getD 0 = (evO w _).getD 0
            rw [x.2.nine]
          · exact z1.2.nine w
      refine ⟨J14, L8, by rw [rans]; exact w, ?_, lo, ⟨by omega, (k14 _ _ (by omega) (by omega) (by omega) (by omega)).trans ((uI_ix (by omega)).trans ((uI_ix (by omega)).trans z2)), by rw [rans]; exact (k14 _ _ (by omega) (by omega) (by omega) (by omega)).trans ((uI_ix (by omega)).trans (uI_same _ _ _ _)), fun j hj => absurd hj (Nat.not_lt_zero _)⟩, fun z => absurd ⟨rfl, l0⟩ (z T'), fun T2 gT => ?_⟩
      · intro a j q
        rw [k14' a j (by omega) (by omega) (by omega) (by omega)]
        exact F8 a j (by unfold rdF rfF; omega)
      · obtain ⟨eT, _⟩ := gT
        subst eT
        have one : ∀ a j, (393 ≤ a ∧ a ≤ 406) → J14 a j = J8 a j := fun a j q => k14' a j (by omega) (by omega) (by omega) (by omega)
        refine ⟨1 - v, ⟨pv, rv, ⟨v1, plm.2.1, (one _ _ (by omega)).trans D2.1, (one _ _ (by omega)).trans D3.1, (one _ _ (by omega)).trans D4.1, (one _ _ (by omega)).trans D5, (one _ _ (by omega)).trans D6, (one _ _ (by omega)).trans D7, fun i hi => ⟨(one _ _ (by omega)).trans (D2.2 i hi).2.1, (one _ _ (by omega)).trans (D2.2 i hi).2.2⟩, fun k hk => (one _ _ (by omega)).trans (D3.2 k hk).1, fun k hk => ⟨(one _ _ (by omega)).trans (D4.2 k hk).2.1, (one _ _ (by omega)).trans (D4.2 k hk).2.2⟩, plm.law G⟩, ?_, ⟨by omega, ?_, fun i hi => absurd hi (Nat.not_lt_zero _)⟩, ⟨fun s hs => ?_, fun s hs z => absurd z Bool.false_ne_true⟩, ⟨by omega, fun i hi => absurd hi (Nat.not_lt_zero _)⟩, ⟨?_, fun i hi => absurd hi (Nat.not_lt_zero _)⟩, fun i hi => absurd hi (Nat.not_lt_zero _), fun s hs z => absurd z Bool.false_ne_true⟩, W8, plm⟩
        · intro j hj
          rw [f14 _ _ (by omega)]
          refine (uI_off (by omega)).trans ((uI_off (by omega)).trans ?_)
          exact nw12 j hj
        · exact (f14 _ _ (by omega)).trans ((uI_ix (by omega)).trans (uI_same _ _ _ _))
        · rw [if_neg Bool.false_ne_true]
          exact h14 s (Nat.zero_le _) hs
        · exact (f14 _ _ (by omega)).trans (uI_same _ _ _ _)
    · have rans : RAns Pl (Sum.inl (t, T')) = (nI (tLt T').1, Pl (tLt T').2) := by
        show (if (tLt T').1 = 0 then (nI 0, (-1 : Int32)) else _) = _
        rw [if_neg l0]
      refine bad _ _ rans (fun T2 z => l0 (by rw [← z.1] at z; exact z.2)) ?_
      have e15 : J8 384 15 = nI (tLt T').1 := D10.1
      have e16 : J8 384 16 = Pl (tLt T').2 := D10.2 l0
      have n15 : ¬ nI (tLt T').1 ≤ nI 0 := by
        rcases ok.2.2.2.2.2.1 with z | ⟨z | z, _⟩
        · exact absurd z l0
        · rw [z]; decide +kernel
        · rw [z]; decide +kernel
      have le13' : uI J8 384 17 (Pl (tLt T').2) 384 13 ≤ nI 0 := by
        rw [uI_ix (by omega)]
        exact le13
      have e15' : uI J8 384 17 (Pl (tLt T').2) 384 15 = nI (tLt T').1 := (uI_ix (by omega)).trans e15
      rw [w134, B_X12_read_134]
      simp only [gM G, if_true, le13]
      rw [B_X12_read_149]
      simp only [gM G, if_true, e15, n15, if_false, e16]
      rw [B_X12_read_164]
      simp only [gM G, if_true, le13']
      rw [B_X12_read_179]
      simp only [gM G, if_true, e15', n15, if_false]
