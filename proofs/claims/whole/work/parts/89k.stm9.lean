/-! a text, reference side: what is told so far, a statement -/
def dfW (k : Nat) : mLaw := match k with
  | 0 => ([], [-12, -13, -2])
  | 1 => ([], [nI 0])
  | 2 => ([], [-13])
  | _ => ([], [-16])
def LWM (I : mI) (v t : Nat) (lw : Nat → mLaw) : Prop := ∃ q b, I 384 44 = nI q ∧ 420 * v ≤ q ∧ q ≤ 420 * v + t ∧ I 384 38 = nI b ∧ 130 * v ≤ b ∧ 4 * b ≤ 4 * (130 * v) + t ∧ ∀ k, k < 4 → ∃ fi la, I 407 (4 * v + k) = nI fi ∧ I 408 (4 * v + k) = nI la ∧ la ≤ b ∧ (fi = la ∧ lw k = dfW k ∨ 130 * v ≤ fi ∧ MW I q la fi (lw k).1 (lw k).2)
def ML (I : mI) (v n : Nat) (st : Nat → Int32) : Prop := I 393 v = nI n ∧ ∀ i, i < n → I 394 (7 * v + i) = st (60 + i) ∧ I 395 (7 * v + i) = st (10 + i) ∧ I 396 (7 * v + i) = st (20 + i)
def MK (I : mI) (v n : Nat) (st : Nat → Int32) : Prop := I 397 v = nI n ∧ ∀ i, i < n → I 398 (5 * v + i) = st (30 + i) ∧ I 399 (5 * v + i) = st (80 + i)
def MH (I : mI) (v n : Nat) (st : Nat → Int32) : Prop := I 400 v = nI n ∧ ∀ i, i < n → I 401 (5 * v + i) = st (70 + i) ∧ I 402 (5 * v + i) = st (40 + i) ∧ I 403 (5 * v + i) = st (50 + i)
def DRM (I : mI) (L : mJ) (P : Nat → Int32) (v t : Nat) (T : mTx) : Prop := I 384 19 = nI v ∧ ML I v (tLo T) (tSt T) ∧ MK I v (tSi T) (tSt T) ∧ MH I v (tHo T) (tSt T) ∧ (I 404 v = tSt T 0 ∧ I 405 v = tSt T 1 ∧ I 406 v = tSt T 2) ∧ LWM I v t (tLw T) ∧ NMm I L (tNm T) ∧ LM I P (tLt T)
def rfF (v a j : Nat) : Prop := a = 384 ∧ (11 ≤ j ∧ j ≤ 16 ∨ j = 20 ∨ j = 38 ∨ j = 44 ∨ j = 48) ∨ (a = 393 ∨ a = 397 ∨ a = 400 ∨ 404 ≤ a ∧ a ≤ 406) ∧ j = v ∨ 394 ≤ a ∧ a ≤ 396 ∧ (7 * v ≤ j ∧ j < 7 * v + 7) ∨ (a = 398 ∨ a = 399 ∨ 401 ≤ a ∧ a ≤ 403) ∧ (5 * v ≤ j ∧ j < 5 * v + 5) ∨ (a = 407 ∨ a = 408) ∧ (4 * v ≤ j ∧ j < 4 * v + 4) ∨ 409 ≤ a ∧ a ≤ 413 ∧ (130 * v ≤ j ∧ j < 130 * v + 130) ∨ (a = 414 ∨ a = 415) ∧ (420 * v ≤ j ∧ j < 420 * v + 420) ∨ a = 416
theorem ML.cg {I J : mI} {v n : Nat} {st st' : Nat → Int32} (h : ML I v n st) (e0 : J 393 v = I 393 v) (e : ∀ a, 394 ≤ a → a ≤ 396 → ∀ i, i < n → J a (7 * v + i) = I a (7 * v + i)) (es : ∀ i, i < n → st' (60 + i) = st (60 + i) ∧ st' (10 + i) = st (10 + i) ∧ st' (20 + i) = st (20 + i)) : ML J v n st' := by
  refine ⟨e0.trans h.1, fun i hi => ?_⟩
  obtain ⟨a1, a2, a3⟩ := h.2 i hi
  obtain ⟨b1, b2, b3⟩ := es i hi
  exact ⟨(e _ (by omega) (by omega) i hi).trans (a1.trans b1.symm), (e _ (by omega) (by omega) i hi).trans (a2.trans b2.symm), (e _ (by omega) (by omega) i hi).trans (a3.trans b3.symm)⟩
theorem MK.cg {I J : mI} {v n : Nat} {st st' : Nat → Int32} (h : MK I v n st) (e0 : J 397 v = I 397 v) (e : ∀ a, 398 ≤ a → a ≤ 399 → ∀ i, i < n → J a (5 * v + i) = I a (5 * v + i)) (es : ∀ i, i < n → st' (30 + i) = st (30 + i) ∧ st' (80 + i) = st (80 + i)) : MK J v n st' := by
  refine ⟨e0.trans h.1, fun i hi => ?_⟩
  obtain ⟨a1, a2⟩ := h.2 i hi
  obtain ⟨b1, b2⟩ := es i hi
  exact ⟨(e _ (by omega) (by omega) i hi).trans (a1.trans b1.symm), (e _ (by omega) (by omega) i hi).trans (a2.trans b2.symm)⟩
theorem MH.cg {I J : mI} {v n : Nat} {st st' : Nat → Int32} (h : MH I v n st) (e0 : J 400 v = I 400 v) (e : ∀ a, 401 ≤ a → a ≤ 403 → ∀ i, i < n → J a (5 * v + i) = I a (5 * v + i)) (es : ∀ i, i < n → st' (70 + i) = st (70 + i) ∧ st' (40 + i) = st (40 + i) ∧ st' (50 + i) = st (50 + i)) : MH J v n st' := by
  refine ⟨e0.trans h.1, fun i hi => ?_⟩
  obtain ⟨a1, a2, a3⟩ := h.2 i hi
  obtain ⟨b1, b2, b3⟩ := es i hi
  exact ⟨(e _ (by omega) (by omega) i hi).trans (a1.trans b1.symm), (e _ (by omega) (by omega) i hi).trans (a2.trans b2.symm), (e _ (by omega) (by omega) i hi).trans (a3.trans b3.symm)⟩
theorem MW.up {I : mI} {qe qe' last : Nat} (hq : qe ≤ qe') : ∀ {r : List mBr} {e : List Int32} {b : Nat}, MW I qe last b r e → MW I qe' last b r e
  | [], _, _, ⟨q1, q2, p, q, q3, q4, q5, q6, q7⟩ => ⟨q1, q2, p, q, q3, q4, q5, by omega, q7⟩
  | (_, _, _) :: _, _, _, ⟨q1, q2, ⟨p0, p1, p2, p3, a1, a2, a3, a4, a5, a6, a7, a8, a9⟩, q⟩ => ⟨q1, q2, ⟨p0, p1, p2, p3, a1, a2, a3, a4, a5, a6, a7, by omega, a9⟩, MW.up hq q⟩
theorem BB.le {I J : mI} {b c : Nat} (h : BB I J b) (q : c ≤ b) : BB I J c := fun a p1 p2 j hj => h a p1 p2 j (by omega)
theorem LWM.cg {I J : mI} {v t t' : Nat} {lw : Nat → mLaw} (h : LWM I v t lw) (e44 : J 384 44 = I 384 44) (e38 : J 384 38 = I 384 38) (e : ∀ a, 407 ≤ a → a ≤ 415 → ∀ j, J a j = I a j) (q : t ≤ t') : LWM J v t' lw := by
  obtain ⟨p, b, h1, h2, h3, h4, h5, h6, h7⟩ := h
  refine ⟨p, b, e44.trans h1, h2, by omega, e38.trans h4, h5, by omega, fun k hk => ?_⟩
  obtain ⟨fi, la, a1, a2, a3, a4⟩ := h7 k hk
  exact ⟨fi, la, (e _ (by omega) (by omega) _).trans a1, (e _ (by omega) (by omega) _).trans a2, a3, a4.imp id fun m => ⟨m.1, m.2.cg fun a x y j => e a (by omega) y j⟩⟩
theorem NMm.cg {I J : mI} {L : mJ} {nm : List Nat} (h : NMm I L nm) (e : J 384 20 = I 384 20) : NMm J L nm := ⟨e.trans h.1, h.2⟩
def ltM (v kl a j : Nat) : Prop := lwF (420 * v) (130 * v) a j ∨ (a = 407 ∨ a = 408) ∧ j = 4 * v + kl
theorem k_set : (61 ∈ kKs ∧ gkN 61 = 5 ∧ ¬ nI 61 = nI 0) := by decide +kernel
def LwR (J : mI) (K P : Nat → Int32) (v : Nat) (T : mTx) : TR → Prop
  | Sum.inl (t', T') => MSt J K P (t', 0) ∧ LWM J v t' (tLw T') ∧ T'.1 = T.1 ∧ tSt T' = tSt T ∧ tNm T' = tNm T ∧ tLt T' = tLt T
  | Sum.inr (t', f) => MF J P t' f
/-- tellLaw, from its ='s place on -/
theorem m_lawSt (d : Nat) {S : mS} {I : mI} {L : mJ} {K V P : Nat → Int32} (G : Gd S) (k : TKM I K V P) {v kl t : Nat} (hv : v < 2) (ht : t ≤ 400) (h19 : I 384 19 = nI v) (hk : kl < 4) (h : MSt I K P (tk K (K t) (t, 0))) {T : mTx} (hl : LWM I v t (tLw T)) {res : TR} (hx : SXlaw K V kl t T res) : ∃ J, evM zcod (d + 6) 184 [.ref 384, .int (nI kl)] (S, I, L) = some (none, (S, J, L)) ∧ Fi (ltM v kl) I J ∧ LwR J K P v T res := by
  obtain ⟨s2, es, hs⟩ := hx
  obtain ⟨q, b, h1, h2, h3, h4, h5, h6, h7⟩ := hl
  obtain ⟨J1, e1, f1, m1⟩ := m_mustL (d + 2) (L := L) G k h 61 5 k_set.1 k_set.2.2 k_set.2.1
  rw [← es] at m1
  have k1 := bd_tk k (f1.up fun _ _ => tkF_bd)
  have F1 : Fi (ltM v kl) I J1 := f1.up fun _ _ z => Or.inl (tkF_lw z)
  have b38 : J1 384 38 = nI b := (f1 _ _ (by unfold tkF; omega)).trans h4
  have b44 : J1 384 44 = nI q := (f1 _ _ (by unfold tkF; omega)).trans h1
  have w12 : evM zcod (d + 6) 184 [.ref 384, .int (nI kl)] (S, I, L) = l12 S L (d + 5) J1 (nI kl) (nI b) (nI 0) := by
    unfold l12
    rw [E_X12_tellLaw, B_X12_tellLaw_0]
    simp only [gM G, if_true, e1, bV_eq, b38]
  rcases hs with ⟨z2, rfl⟩ | ⟨z2, r, hr, hres⟩
  · obtain ⟨J, e, f, m⟩ := m_lawBad d (L := L) (B := 420 * v) (C := 130 * v) G (by omega) k1 (m1.mf z2) b38 (by omega) (by omega) (nI kl) (nI b) (nI 0)
    exact ⟨J, w12.trans e, F1.tr (f.up fun _ _ => Or.inl), m⟩
  · obtain ⟨hm, ho⟩ := m1.ms z2
    obtain ⟨z1, -, g2, -⟩ := tk_le (es ▸ z2)
    rw [← es] at g2
    have g1 : (tk K (K t) (t, 0)).1 = t + 1 := (tk_le z1).2.2.1
    have lr := m_lawLoop (L := L) (B := 420 * v) (C := 130 * v) G (by omega) (by omega) (fun b p q => by omega) (nI kl) (nI b) 4 0 d J1 s2.1 q b r rfl hr k1 hm ho b44 (by omega) b38 (by omega)
    rcases hres with ⟨s, rfl, rfl⟩ | ⟨t', br, e', rfl, rfl⟩
    · match s, lr with
      | (t', f'), ⟨J, e, f, m⟩ => exact ⟨J, w12.trans e, F1.tr (f.up fun _ _ => Or.inl), m⟩
    · obtain ⟨J, f, m, n1, n2⟩ := lr
      have F2 : Fi (ltM v kl) I J := F1.tr (f.up fun _ _ => Or.inl)
      unfold fin
      by_cases z : (tk K (nI 59) (t', 0)).2 = 0
      · rw [if_pos z]
        obtain ⟨e1', qe, last, a1, a2, a3, a4, a5, a6, a7, a8, a9⟩ := n2 z
        have kv := s4v v hv kl hk
        have x1 : zin (nI (4 * v + kl)) 8 = True := ixT (by omega) (by omega)
        have x1i : zix (nI (4 * v + kl)) = 4 * v + kl := ixI (by omega)
        have j19 : J 384 19 = nI v := (F2 _ _ (by unfold ltM lwF; omega)).trans h19
        have j19' : uI J 407 (4 * v + kl) (nI b) 384 19 = nI v := (uI_off (by omega)).trans j19
        have j38' : uI J 407 (4 * v + kl) (nI b) 384 38 = nI last := (uI_off (by omega)).trans a4
        let J2 := uI (uI J 407 (4 * v + kl) (nI b)) 408 (4 * v + kl) (nI last)
        have F3 : Fi (ltM v kl) I J2 := F2.tr (Fi.u (Fi.u Fi.rf (Or.inr ⟨Or.inl rfl, rfl⟩)) (Or.inr ⟨Or.inr rfl, rfl⟩))
        have o : ∀ a j, ¬ a = 407 → ¬ a = 408 → J2 a j = J a j := fun a j x y => (uI_off y).trans (uI_off x)
        have lt : (tk K (nI 59) (t', 0)).1 = t' + 1 := (tk_le z).2.2.1
        refine ⟨J2, ?_, F3, ?_, ⟨qe, last, (o _ _ (by omega) (by omega)).trans a1, by omega, by omega, (o _ _ (by omega) (by omega)).trans a4, by omega, by omega, fun j hj => ?_⟩, rfl, rfl, rfl, rfl⟩
        · rw [w12, e1']
          unfold l156
          rw [B_X12_tellLaw_156]
          simp only [gM G, if_true, true_and, j19, kv, x1, x1i, j19', j38']
          rfl
        · have es' : tk K (nI 59) (t', 0) = ((tk K (nI 59) (t', 0)).1, 0) := Prod.ext rfl z
          rw [← es']
          exact m.of fun j => o _ _ (by omega) (by omega)
        · unfold upW
          show ∃ fi la, J2 407 (4 * v + j) = nI fi ∧ J2 408 (4 * v + j) = nI la ∧ la ≤ last ∧ (fi = la ∧ (if j = kl then (br, e') else tLw T j) = dfW j ∨ 130 * v ≤ fi ∧ MW J2 qe la fi (if j = kl then (br, e') else tLw T j).1 (if j = kl then (br, e') else tLw T j).2)
          by_cases c : j = kl
          · subst c
            rw [if_pos rfl]
            refine ⟨b, last, ?_, uI_same _ _ _ _, Nat.le_refl _, Or.inr ⟨h5, a7.cg fun a x y j => o _ _ (by omega) (by omega)⟩⟩
            exact (uI_off (by omega)).trans (uI_same _ _ _ _)
          · rw [if_neg c]
            obtain ⟨fi, la, c1, c2, c3, c4⟩ := h7 j hj
            have r7 : ∀ a, a = 407 ∨ a = 408 → J2 a (4 * v + j) = I a (4 * v + j) := fun a ha => by
              rw [F3 _ _ (by unfold ltM lwF; omega)]
            refine ⟨fi, la, (r7 _ (Or.inl rfl)).trans c1, (r7 _ (Or.inr rfl)).trans c2, by omega, c4.imp id fun w => ⟨w.1, ?_⟩⟩
            have w1 : MW J1 q la fi _ _ := w.2.cg fun a x y j => f1 _ _ (by unfold tkF; omega)
            have w2 : MW J q la fi _ _ := w1.lo a8 (a9.le c3)
            exact (w2.up a3).cg fun a x y j => o _ _ (by omega) (by omega)
      · rw [if_neg z]
        exact ⟨J, w12.trans (n1 z), F2, m.mf z⟩
theorem gk_st : (gk (nI 128) = nI 20 ∧ gk (nI 129) = nI 21 ∧ gk (nI 130) = nI 22) ∧ (gk (nI 135) = nI 27 ∧ gk (nI 136) = nI 28 ∧ gk (nI 137) = nI 29) ∧ ∀ k, k < 4 → gk (nI (131 + k)) = nI (23 + k) := by decide +kernel
theorem gk_no : ∀ n, n ∈ kKs → ¬ (128 ≤ n ∧ n ≤ 137) → gkN n < 20 ∨ 30 ≤ gkN n := by decide +kernel
theorem law_s23 : ∀ k, k < 4 → nI (23 + k) - nI 23 = nI k ∧ ¬ nI k < nI 0 ∧ nI (23 + k) ≤ nI 26 := by decide +kernel
theorem n23 : ∀ g, g < 42 → (g < 20 → nI g - nI 23 < nI 0) ∧ (30 ≤ g → ¬ nI g - nI 23 < nI 0 ∧ ¬ nI g ≤ nI 26) := by decide +kernel
def OnR (J : mI) (L : mJ) (K P : Nat → Int32) (v : Nat) : TR → Prop
  | Sum.inl (t', T') => MSt J K P (t', 0) ∧ DRM J L P v t' T'
  | Sum.inr (t', f) => MF J P t' f
theorem ldM_rf {v n a j : Nat} (hn : n < 7) (h : ldM v n a j) : rfF v a j := by
  rcases h with ⟨h1, h2⟩ | ⟨h1, h2⟩ | ⟨h1, h2, h3⟩
  · exact Or.inl ⟨h1, by omega⟩
  · exact Or.inr (Or.inl ⟨Or.inl h1, h2⟩)
  · exact Or.inr (Or.inr (Or.inl ⟨h1, h2, by omega, by omega⟩))
theorem slM_rf {v n a j : Nat} (hn : n < 5) (h : slM v n a j) : rfF v a j := by
  rcases h with ⟨h1, h2⟩ | ⟨h1, h2⟩ | ⟨h1, h2, h3⟩
  · exact Or.inl ⟨h1, by omega⟩
  · exact Or.inr (Or.inl ⟨Or.inr (Or.inl h1), h2⟩)
  · exact Or.inr (Or.inr (Or.inr (Or.inl ⟨by omega, by omega, by omega⟩)))
theorem hkM_rf {v n a j : Nat} (hn : n < 5) (h : hkM v n a j) : rfF v a j := by
  rcases h with ⟨h1, h2⟩ | ⟨h1, h2⟩ | ⟨h1, h2, h3⟩
  · exact Or.inl ⟨h1, by omega⟩
  · exact Or.inr (Or.inl ⟨Or.inr (Or.inr (Or.inl h1)), h2⟩)
  · exact Or.inr (Or.inr (Or.inr (Or.inl ⟨Or.inr (Or.inr ⟨h1, h2⟩), by omega, by omega⟩)))
theorem ltM_rf {v kl a j : Nat} (hk : kl < 4) (h : ltM v kl a j) : rfF v a j := by
  rcases h with (⟨h1, h2⟩ | ⟨h1, h2, h3⟩ | ⟨h1, h2⟩ | h1) | ⟨h1, h2⟩
  · exact Or.inl ⟨h1, by omega⟩
  · exact Or.inr (Or.inr (Or.inr (Or.inr (Or.inr (Or.inl ⟨h1, h2, h3⟩)))))
  · exact Or.inr (Or.inr (Or.inr (Or.inr (Or.inr (Or.inr (Or.inl ⟨h1, h2⟩))))))
  · exact Or.inr (Or.inr (Or.inr (Or.inr (Or.inr (Or.inr (Or.inr h1))))))
  · exact Or.inr (Or.inr (Or.inr (Or.inr (Or.inl ⟨h1, by omega, by omega⟩))))
theorem tkF_rf {v a j : Nat} (h : tkF a j) : rfF v a j := Or.inl ⟨h.1, Or.inl ⟨h.2.1, Nat.le_trans h.2.2 (by decide)⟩⟩
theorem bdF_rf {v a j : Nat} (h : bdF a j) : rfF v a j := Or.inl ⟨h.1, Or.inl h.2⟩
theorem m_oneload (d : Nat) {S : mS} {I : mI} {L : mJ} {K V P : Nat → Int32} {N : Nat → Int64} (G : Gd S) (k : TKM I K V P) (o : PO K P) (nr : NR K N L) {v t : Nat} (hv : v < 2) {T : mTx} (h : MSt I K P (t, 0)) (hD : DRM I L P v t T) (hT : TOK K t T) (h0 : ¬ K t = nI 0) {res : TR} (hx : STX K V N t T res) (a : K t = nI 128) {s1 s2 s3 s4 s5 : mSt} (e1 : s1 = fst1 K (tLo T) 7 t) (e2 : s2 = tk K (nI 2) s1) (e3 : s3 = tk K (nI 3) s2) (e4 : s4 = tk K (nI 3) s3) (e5 : s5 = tk K (nI 3) s4) (e6 : res = fin (tk K (nI 59) s5) ((tLo T + 1, tSi T, tHo T), upL (tSt T) (tLo T) (V s2.1) (V s3.1) (V s4.1), tLw T, tNm T ++ [s1.1], nbl V (nI 1) (nI 0) (nI 99) s4 (nbl V (nI 1) (nI 1) (nI 9) s3 (nbl V (nI 1) (nI 0) (nI 19) s2 (nml N (tNm T) s1 (tLt T)))))) : ∃ J L', evM zcod (d + 8) 177 [.ref 384] (S, I, L) = some (none, (S, J, L')) ∧ Fi (rfF v) I J ∧ (∀ a j, ¬ a = 392 → L' a j = L a j) ∧ OnR J L' K P v res := by
  obtain ⟨hm, ho⟩ := h.ms rfl
  have hm' : MS I K t := hm
  have ht : t ≤ 400 := hm.1
  have okT := fun t' T' (e : res = Sum.inl (t', T')) => STX.ok (K := K) (V := V) (N := N) k.2.2 ht (e ▸ hx) hT
  obtain ⟨D1, D2, D3, D4, ⟨D5, D6, D7⟩, D8, D9, D10⟩ := hD
  obtain ⟨q1, q2, q3, q4, q5, q6, q7⟩ := hT
  have x1 : zin (nI t) 403 = True := ixT (by omega) (by omega)
  have x1i : zix (nI t) = t := ixI (by omega)
  have xv : zin (nI v) 2 = True := ixT hv (by omega)
  have xvi : zix (nI v) = v := ixI (by omega)
  have kt := (k.1 t ht hm'.2.2.2).1
  have w0 : evM zcod (d + 8) 177 [.ref 384] (S, I, L) = evk zcod none (d + 7) zc_X12_tellOne 0 [(0, .ref 384)] [] (S, I, L) := by rw [E_X12_tellOne]
  have e11 : I 384 11 = nI t := hm'.2.1
  have done : evk zcod none (d + 7) zc_X12_tellOne 260 [] [] = fun M => some (none, M) := by
    funext M
    obtain ⟨S', I', L'⟩ := M
    exact B_X12_tellOne_260 _ _ _ _
  -- a thing whose first token is taken
  have first : ∀ (n m : Nat), n ≤ m → m ≤ 7 → LTk (tLt T) t → ∃ J1, evM zcod (d + 7) 175 [.ref 384, .int (nI n), .int (nI m)] (S, I, L) = some (none, (S, J1, L)) ∧ Fi tkF I J1 ∧ MSt J1 K P (fst1 K n m t) ∧ ((fst1 K n m t).2 = 0 → LM J1 P (tLt T) ∧ LTk (tLt T) (fst1 K n m t).1 ∧ NMm J1 L (tNm T) ∧ ∀ i, i ∈ tNm T → i < (fst1 K n m t).1 ∧ K i = nI 2) := by
    intro n m h1 h2 h3
    obtain ⟨J1, e, f, m1⟩ := m_roomFor (d + 3) (L := L) G k h h1 h2 h0
    refine ⟨J1, e, f, m1, fun z => ?_⟩
    have g := (fst1_le z).2
    exact ⟨D10.cg (f _ _ (by unfold tkF; omega)) (f _ _ (by unfold tkF; omega)), h3.up (by omega), D9.cg (f _ _ (by unfold tkF; omega)), fun i hi => ⟨by have := (q5 i hi).1; omega, (q5 i hi).2⟩⟩
  have tks : ∀ {x : Int32} {s : mSt}, ¬ s.2 = 0 → tk K x s = s := fun z => by
    unfold tk
    rw [if_neg z]
  obtain ⟨J1, w1, f1, m1, r1⟩ := first (tLo T) 7 q1 (by omega) q6
  rw [← e1] at m1 r1
  have w64 : evM zcod (d + 8) 177 [.ref 384] (S, I, L) = if ¬ J1 384 13 = nI 0 then some (none, (S, J1, L)) else bV (evM zcod (d + 7) 181 [.ref 384] (S, J1, L)) fun M2 => if M2.1.1 = S.1 then some (none, M2) else none := by
    rw [w0, B_X12_tellOne_0]
    simp only [gM G, if_true, true_and, e11, x1, x1i, kt, a, gk_st.1.1]
    rw [B_X12_tellOne_64]
    simp only [gM G, if_true, true_and, D1, xv, xvi, D2.1, w1, bV_eq, done]
  by_cases z1 : s1.2 = 0
  · obtain ⟨n1, g1⟩ := fst1_le (e1 ▸ z1)
    obtain ⟨l1, l2, l3, l5⟩ := r1 z1
    have k1 := bd_tk k (f1.up fun _ _ => tkF_bd)
    obtain ⟨J, L', e, f, lo, m, q⟩ := m_tellLoad (d + 2) (L := L) G k1 o nr hv ((f1 _ _ (by unfold tkF; omega)).trans D1) n1 ((f1 _ _ (by unfold tkF; omega)).trans D2.1) m1 z1 (l := tLt T) (nm := tNm T) ⟨l1, l2, l3, by omega, l5⟩ e2 e3 e4 e5
    have FF : Fi (rfF v) I J := (f1.up fun _ _ => tkF_rf).tr (f.up fun _ _ => ldM_rf n1)
    refine ⟨J, L', ?_, FF, lo, ?_⟩
    · rw [w64, if_neg (fun z => z (m1.ms z1).1.2.2.1)]
      simp only [e, bV_eq, if_true]
    · by_cases z6 : (tk K (nI 59) s5).2 = 0
      · obtain ⟨c1, c2, c3, c4, c5, c6⟩ := q z6
        have e6' := e6
        unfold fin at e6'
        rw [if_pos z6] at e6'
        obtain ⟨lt, -, -⟩ := okT _ _ e6'
        subst e6'
        have es' : tk K (nI 59) s5 = ((tk K (nI 59) s5).1, 0) := Prod.ext rfl z6
        have ff : ∀ a j, ¬ tkF a j → ¬ ldM v (tLo T) a j → J a j = I a j := fun a j x y => (f a j y).trans (f1 a j x)
        refine ⟨by rw [← es']; exact m, (FF _ _ (by unfold rfF; omega)).trans D1, ⟨c1, fun i hi => ?_⟩, D3.cg (ff _ _ (by unfold tkF; omega) (by unfold ldM enF; omega)) (fun a x y i hi => ff _ _ (by unfold tkF; omega) (by unfold ldM enF; omega)) ?_, D4.cg (ff _ _ (by unfold tkF; omega) (by unfold ldM enF; omega)) (fun a x y i hi => ff _ _ (by unfold tkF; omega) (by unfold ldM enF; omega)) ?_, ⟨?_, ?_, ?_⟩, D8.cg (ff _ _ (by unfold tkF; omega) (by unfold ldM enF; omega)) (ff _ _ (by unfold tkF; omega) (by unfold ldM enF; omega)) (fun a x y j => ff _ _ (by unfold tkF; omega) (by unfold ldM enF; omega)) (by omega), c6, c5⟩
        · have hi' : i < tLo T + 1 := hi
          show J 394 (7 * v + i) = upL (tSt T) (tLo T) _ _ _ (60 + i) ∧ J 395 (7 * v + i) = upL (tSt T) (tLo T) _ _ _ (10 + i) ∧ J 396 (7 * v + i) = upL (tSt T) (tLo T) _ _ _ (20 + i)
          unfold upL
          by_cases ei : i = tLo T
          · rw [ei, up1_o (show ¬ 60 + tLo T = 20 + tLo T by omega), up1_o (show ¬ 60 + tLo T = 10 + tLo T by omega), up1_s, up1_o (show ¬ 10 + tLo T = 20 + tLo T by omega), up1_s, up1_s]
            exact ⟨c2, c3, c4⟩
          · have := D2.2 i (by omega)
            rw [up1_o (show ¬ 60 + i = 20 + tLo T by omega), up1_o (show ¬ 60 + i = 10 + tLo T by omega), up1_o (show ¬ 60 + i = 60 + tLo T by omega), up1_o (show ¬ 10 + i = 20 + tLo T by omega), up1_o (show ¬ 10 + i = 10 + tLo T by omega), up1_o (show ¬ 10 + i = 60 + tLo T by omega), up1_o (show ¬ 20 + i = 20 + tLo T by omega), up1_o (show ¬ 20 + i = 10 + tLo T by omega), up1_o (show ¬ 20 + i = 60 + tLo T by omega)]
            exact ⟨(ff _ _ (by unfold tkF; omega) (by unfold ldM enF; omega)).trans this.1, (ff _ _ (by unfold tkF; omega) (by unfold ldM enF; omega)).trans this.2.1, (ff _ _ (by unfold tkF; omega) (by unfold ldM enF; omega)).trans this.2.2⟩
        · intro i hi
          have hi' : i < tSi T := hi
          show upL (tSt T) (tLo T) _ _ _ (30 + i) = _ ∧ upL (tSt T) (tLo T) _ _ _ (80 + i) = _
          unfold upL
          exact ⟨by rw [up1_o (by omega), up1_o (by omega), up1_o (by omega)], by rw [up1_o (by omega), up1_o (by omega), up1_o (by omega)]⟩
        · intro i hi
          have hi' : i < tHo T := hi
          show upL (tSt T) (tLo T) _ _ _ (70 + i) = _ ∧ upL (tSt T) (tLo T) _ _ _ (40 + i) = _ ∧ upL (tSt T) (tLo T) _ _ _ (50 + i) = _
          unfold upL
          exact ⟨by rw [up1_o (by omega), up1_o (by omega), up1_o (by omega)], by rw [up1_o (by omega), up1_o (by omega), up1_o (by omega)], by rw [up1_o (by omega), up1_o (by omega), up1_o (by omega)]⟩
        · show J 404 v = upL (tSt T) (tLo T) _ _ _ 0
          unfold upL
          rw [up1_o (by omega), up1_o (by omega), up1_o (by omega), ff _ _ (by unfold tkF; omega) (by unfold ldM enF; omega), D5]
        · show J 405 v = upL (tSt T) (tLo T) _ _ _ 1
          unfold upL
          rw [up1_o (by omega), up1_o (by omega), up1_o (by omega), ff _ _ (by unfold tkF; omega) (by unfold ldM enF; omega), D6]
        · show J 406 v = upL (tSt T) (tLo T) _ _ _ 2
          unfold upL
          rw [up1_o (by omega), up1_o (by omega), up1_o (by omega), ff _ _ (by unfold tkF; omega) (by unfold ldM enF; omega), D7]
      · unfold fin at e6
        rw [if_neg z6] at e6
        subst e6
        exact m.mf z6
  · have hf := m1.mf z1
    have e5' : tk K (nI 59) s5 = s1 := by rw [e5, e4, e3, e2, tks z1, tks z1, tks z1, tks z1, tks z1]
    unfold fin at e6
    rw [e5', if_neg z1] at e6
    subst e6
    exact ⟨J1, L, by rw [w64, if_pos hf.n0], f1.up fun _ _ => tkF_rf, fun _ _ _ => rfl, hf⟩
theorem m_onesilk (d : Nat) {S : mS} {I : mI} {L : mJ} {K V P : Nat → Int32} {N : Nat → Int64} (G : Gd S) (k : TKM I K V P) (o : PO K P) (nr : NR K N L) {v t : Nat} (hv : v < 2) {T : mTx} (h : MSt I K P (t, 0)) (hD : DRM I L P v t T) (hT : TOK K t T) (h0 : ¬ K t = nI 0) {res : TR} (hx : STX K V N t T res) (a : K t = nI 129) {s1 s2 s3 s4 s5 : mSt} (e1 : s1 = fst1 K (tSi T) 5 t) (e2 : s2 = tk K (nI 2) s1) (e3 : s3 = tk K (nI 3) s2) (e4 : s4 = sgS K s3) (e5 : s5 = tk K (nI 3) s4) (e6 : res = fin (tk K (nI 59) s5) ((tLo T, tSi T + 1, tHo T), upK (tSt T) (tSi T) (V s2.1) (sgN K s3 * V s4.1), tLw T, tNm T ++ [s1.1], nbl V (sgN K s3) (-3) (nI 3) s4 (nbl V (nI 1) (nI 1) (nI 9) s2 (nml N (tNm T) s1 (tLt T))))) : ∃ J L', evM zcod (d + 8) 177 [.ref 384] (S, I, L) = some (none, (S, J, L')) ∧ Fi (rfF v) I J ∧ (∀ a j, ¬ a = 392 → L' a j = L a j) ∧ OnR J L' K P v res := by
  obtain ⟨hm, ho⟩ := h.ms rfl
  have hm' : MS I K t := hm
  have ht : t ≤ 400 := hm.1
  have okT := fun t' T' (e : res = Sum.inl (t', T')) => STX.ok (K := K) (V := V) (N := N) k.2.2 ht (e ▸ hx) hT
  obtain ⟨D1, D2, D3, D4, ⟨D5, D6, D7⟩, D8, D9, D10⟩ := hD
  obtain ⟨q1, q2, q3, q4, q5, q6, q7⟩ := hT
  have x1 : zin (nI t) 403 = True := ixT (by omega) (by omega)
  have x1i : zix (nI t) = t := ixI (by omega)
  have xv : zin (nI v) 2 = True := ixT hv (by omega)
  have xvi : zix (nI v) = v := ixI (by omega)
  have kt := (k.1 t ht hm'.2.2.2).1
  have w0 : evM zcod (d + 8) 177 [.ref 384] (S, I, L) = evk zcod none (d + 7) zc_X12_tellOne 0 [(0, .ref 384)] [] (S, I, L) := by rw [E_X12_tellOne]
  have e11 : I 384 11 = nI t := hm'.2.1
  have done : evk zcod none (d + 7) zc_X12_tellOne 260 [] [] = fun M => some (none, M) := by
    funext M
    obtain ⟨S', I', L'⟩ := M
    exact B_X12_tellOne_260 _ _ _ _
  -- a thing whose first token is taken
  have first : ∀ (n m : Nat), n ≤ m → m ≤ 7 → LTk (tLt T) t → ∃ J1, evM zcod (d + 7) 175 [.ref 384, .int (nI n), .int (nI m)] (S, I, L) = some (none, (S, J1, L)) ∧ Fi tkF I J1 ∧ MSt J1 K P (fst1 K n m t) ∧ ((fst1 K n m t).2 = 0 → LM J1 P (tLt T) ∧ LTk (tLt T) (fst1 K n m t).1 ∧ NMm J1 L (tNm T) ∧ ∀ i, i ∈ tNm T → i < (fst1 K n m t).1 ∧ K i = nI 2) := by
    intro n m h1 h2 h3
    obtain ⟨J1, e, f, m1⟩ := m_roomFor (d + 3) (L := L) G k h h1 h2 h0
    refine ⟨J1, e, f, m1, fun z => ?_⟩
    have g := (fst1_le z).2
    exact ⟨D10.cg (f _ _ (by unfold tkF; omega)) (f _ _ (by unfold tkF; omega)), h3.up (by omega), D9.cg (f _ _ (by unfold tkF; omega)), fun i hi => ⟨by have := (q5 i hi).1; omega, (q5 i hi).2⟩⟩
  have tks : ∀ {x : Int32} {s : mSt}, ¬ s.2 = 0 → tk K x s = s := fun z => by
    unfold tk
    rw [if_neg z]
  obtain ⟨J1, w1, f1, m1, r1⟩ := first (tSi T) 5 q2 (by omega) q6
  rw [← e1] at m1 r1
  have w64 : evM zcod (d + 8) 177 [.ref 384] (S, I, L) = if ¬ J1 384 13 = nI 0 then some (none, (S, J1, L)) else bV (evM zcod (d + 7) 182 [.ref 384] (S, J1, L)) fun M2 => if M2.1.1 = S.1 then some (none, M2) else none := by
    rw [w0, B_X12_tellOne_0]
    simp only [gM G, if_true, true_and, e11, x1, x1i, kt, a, gk_st.1.2.1]
    rw [if_neg (n_ne (by omega) (by omega) (by omega)), B_X12_tellOne_93]
    simp only [gM G, if_true, true_and, D1, xv, xvi, D3.1, w1, bV_eq, done]
  by_cases z1 : s1.2 = 0
  · obtain ⟨n1, g1⟩ := fst1_le (e1 ▸ z1)
    obtain ⟨l1, l2, l3, l5⟩ := r1 z1
    have k1 := bd_tk k (f1.up fun _ _ => tkF_bd)
    obtain ⟨J, L', e, f, lo, m, q⟩ := m_tellSilk (d + 2) (L := L) G k1 o nr hv ((f1 _ _ (by unfold tkF; omega)).trans D1) n1 ((f1 _ _ (by unfold tkF; omega)).trans D3.1) m1 z1 (l := tLt T) (nm := tNm T) ⟨l1, l2, l3, by omega, l5⟩ e2 e3 e4 e5
    have FF : Fi (rfF v) I J := (f1.up fun _ _ => tkF_rf).tr (f.up fun _ _ => slM_rf n1)
    refine ⟨J, L', ?_, FF, lo, ?_⟩
    · rw [w64, if_neg (fun z => z (m1.ms z1).1.2.2.1)]
      simp only [e, bV_eq, if_true]
    · by_cases z6 : (tk K (nI 59) s5).2 = 0
      · obtain ⟨c1, c2, c3, c5, c6⟩ := q z6
        have e6' := e6
        unfold fin at e6'
        rw [if_pos z6] at e6'
        obtain ⟨lt, -, -⟩ := okT _ _ e6'
        subst e6'
        have es' : tk K (nI 59) s5 = ((tk K (nI 59) s5).1, 0) := Prod.ext rfl z6
        have ff : ∀ a j, ¬ tkF a j → ¬ slM v (tSi T) a j → J a j = I a j := fun a j x y => (f a j y).trans (f1 a j x)
        refine ⟨by rw [← es']; exact m, (FF _ _ (by unfold rfF; omega)).trans D1, D2.cg (ff _ _ (by unfold tkF; omega) (by unfold slM enF; omega)) (fun a x y i hi => ff _ _ (by unfold tkF; omega) (by unfold slM enF; omega)) ?_, ⟨c1, fun i hi => ?_⟩, D4.cg (ff _ _ (by unfold tkF; omega) (by unfold slM enF; omega)) (fun a x y i hi => ff _ _ (by unfold tkF; omega) (by unfold slM enF; omega)) ?_, ⟨?_, ?_, ?_⟩, D8.cg (ff _ _ (by unfold tkF; omega) (by unfold slM enF; omega)) (ff _ _ (by unfold tkF; omega) (by unfold slM enF; omega)) (fun a x y j => ff _ _ (by unfold tkF; omega) (by unfold slM enF; omega)) (by omega), c6, c5⟩
        · intro i hi
          have hi' : i < tLo T := hi
          show upK (tSt T) (tSi T) _ _ (60 + i) = _ ∧ upK (tSt T) (tSi T) _ _ (10 + i) = _ ∧ upK (tSt T) (tSi T) _ _ (20 + i) = _
          unfold upK
          exact ⟨by rw [up1_o (by omega), up1_o (by omega)], by rw [up1_o (by omega), up1_o (by omega)], by rw [up1_o (by omega), up1_o (by omega)]⟩
        · have hi' : i < tSi T + 1 := hi
          show J 398 (5 * v + i) = upK (tSt T) (tSi T) _ _ (30 + i) ∧ J 399 (5 * v + i) = upK (tSt T) (tSi T) _ _ (80 + i)
          unfold upK
          by_cases ei : i = tSi T
          · rw [ei, up1_o (show ¬ 30 + tSi T = 80 + tSi T by omega), up1_s, up1_s]
            exact ⟨c2, c3⟩
          · have := D3.2 i (by omega)
            rw [up1_o (show ¬ 30 + i = 80 + tSi T by omega), up1_o (show ¬ 30 + i = 30 + tSi T by omega), up1_o (show ¬ 80 + i = 80 + tSi T by omega), up1_o (show ¬ 80 + i = 30 + tSi T by omega)]
            exact ⟨(ff _ _ (by unfold tkF; omega) (by unfold slM enF; omega)).trans this.1, (ff _ _ (by unfold tkF; omega) (by unfold slM enF; omega)).trans this.2⟩
        · intro i hi
          have hi' : i < tHo T := hi
          show upK (tSt T) (tSi T) _ _ (70 + i) = _ ∧ upK (tSt T) (tSi T) _ _ (40 + i) = _ ∧ upK (tSt T) (tSi T) _ _ (50 + i) = _
          unfold upK
          exact ⟨by rw [up1_o (by omega), up1_o (by omega)], by rw [up1_o (by omega), up1_o (by omega)], by rw [up1_o (by omega), up1_o (by omega)]⟩
        · show J 404 v = upK (tSt T) (tSi T) _ _ 0
          unfold upK
          rw [up1_o (by omega), up1_o (by omega), ff _ _ (by unfold tkF; omega) (by unfold slM enF; omega), D5]
        · show J 405 v = upK (tSt T) (tSi T) _ _ 1
          unfold upK
          rw [up1_o (by omega), up1_o (by omega), ff _ _ (by unfold tkF; omega) (by unfold slM enF; omega), D6]
        · show J 406 v = upK (tSt T) (tSi T) _ _ 2
          unfold upK
          rw [up1_o (by omega), up1_o (by omega), ff _ _ (by unfold tkF; omega) (by unfold slM enF; omega), D7]
      · unfold fin at e6
        rw [if_neg z6] at e6
        subst e6
        exact m.mf z6
  · have hf := m1.mf z1
    have sg : sgS K s1 = s1 := if_neg fun z => z1 z.1
    have e5' : tk K (nI 59) s5 = s1 := by rw [e5, e4, e3, e2, tks z1, tks z1, sg, tks z1, tks z1]
    unfold fin at e6
    rw [e5', if_neg z1] at e6
    subst e6
    exact ⟨J1, L, by rw [w64, if_pos hf.n0], f1.up fun _ _ => tkF_rf, fun _ _ _ => rfl, hf⟩
theorem m_onehook (d : Nat) {S : mS} {I : mI} {L : mJ} {K V P : Nat → Int32} {N : Nat → Int64} (G : Gd S) (k : TKM I K V P) (o : PO K P) (nr : NR K N L) {v t : Nat} (hv : v < 2) {T : mTx} (h : MSt I K P (t, 0)) (hD : DRM I L P v t T) (hT : TOK K t T) (h0 : ¬ K t = nI 0) {res : TR} (hx : STX K V N t T res) (a : K t = nI 130) {s1 s2 s3 s4 s5 : mSt} (e1 : s1 = fst1 K (tHo T) 5 t) (e2 : s2 = tk K (nI 2) s1) (e3 : s3 = tk K (nI 3) s2) (e4 : s4 = tk K (nI 3) s3) (e5 : s5 = tk K (nI 3) s4) (e6 : res = fin (tk K (nI 59) s5) ((tLo T, tSi T, tHo T + 1), upH (tSt T) (tHo T) (V s2.1) (V s3.1) (V s4.1), tLw T, tNm T ++ [s1.1], nbl V (nI 1) (nI 1) (nI 9) s4 (nbl V (nI 1) (nI 0) (nI 5) s3 (nbl V (nI 1) (nI 0) (nI 19) s2 (nml N (tNm T) s1 (tLt T)))))) : ∃ J L', evM zcod (d + 8) 177 [.ref 384] (S, I, L) = some (none, (S, J, L')) ∧ Fi (rfF v) I J ∧ (∀ a j, ¬ a = 392 → L' a j = L a j) ∧ OnR J L' K P v res := by
  obtain ⟨hm, ho⟩ := h.ms rfl
  have hm' : MS I K t := hm
  have ht : t ≤ 400 := hm.1
  have okT := fun t' T' (e : res = Sum.inl (t', T')) => STX.ok (K := K) (V := V) (N := N) k.2.2 ht (e ▸ hx) hT
  obtain ⟨D1, D2, D3, D4, ⟨D5, D6, D7⟩, D8, D9, D10⟩ := hD
  obtain ⟨q1, q2, q3, q4, q5, q6, q7⟩ := hT
  have x1 : zin (nI t) 403 = True := ixT (by omega) (by omega)
  have x1i : zix (nI t) = t := ixI (by omega)
  have xv : zin (nI v) 2 = True := ixT hv (by omega)
  have xvi : zix (nI v) = v := ixI (by omega)
  have kt := (k.1 t ht hm'.2.2.2).1
  have w0 : evM zcod (d + 8) 177 [.ref 384] (S, I, L) = evk zcod none (d + 7) zc_X12_tellOne 0 [(0, .ref 384)] [] (S, I, L) := by rw [E_X12_tellOne]
  have e11 : I 384 11 = nI t := hm'.2.1
  have done : evk zcod none (d + 7) zc_X12_tellOne 260 [] [] = fun M => some (none, M) := by
    funext M
    obtain ⟨S', I', L'⟩ := M
    exact B_X12_tellOne_260 _ _ _ _
  -- a thing whose first token is taken
  have first : ∀ (n m : Nat), n ≤ m → m ≤ 7 → LTk (tLt T) t → ∃ J1, evM zcod (d + 7) 175 [.ref 384, .int (nI n), .int (nI m)] (S, I, L) = some (none, (S, J1, L)) ∧ Fi tkF I J1 ∧ MSt J1 K P (fst1 K n m t) ∧ ((fst1 K n m t).2 = 0 → LM J1 P (tLt T) ∧ LTk (tLt T) (fst1 K n m t).1 ∧ NMm J1 L (tNm T) ∧ ∀ i, i ∈ tNm T → i < (fst1 K n m t).1 ∧ K i = nI 2) := by
    intro n m h1 h2 h3
    obtain ⟨J1, e, f, m1⟩ := m_roomFor (d + 3) (L := L) G k h h1 h2 h0
    refine ⟨J1, e, f, m1, fun z => ?_⟩
    have g := (fst1_le z).2
    exact ⟨D10.cg (f _ _ (by unfold tkF; omega)) (f _ _ (by unfold tkF; omega)), h3.up (by omega), D9.cg (f _ _ (by unfold tkF; omega)), fun i hi => ⟨by have := (q5 i hi).1; omega, (q5 i hi).2⟩⟩
  have tks : ∀ {x : Int32} {s : mSt}, ¬ s.2 = 0 → tk K x s = s := fun z => by
    unfold tk
    rw [if_neg z]
  obtain ⟨J1, w1, f1, m1, r1⟩ := first (tHo T) 5 q3 (by omega) q6
  rw [← e1] at m1 r1
  have w64 : evM zcod (d + 8) 177 [.ref 384] (S, I, L) = if ¬ J1 384 13 = nI 0 then some (none, (S, J1, L)) else bV (evM zcod (d + 7) 183 [.ref 384] (S, J1, L)) fun M2 => if M2.1.1 = S.1 then some (none, M2) else none := by
    rw [w0, B_X12_tellOne_0]
    simp only [gM G, if_true, true_and, e11, x1, x1i, kt, a, gk_st.1.2.2]
    rw [if_neg (n_ne (by omega) (by omega) (by omega)), if_neg (n_ne (by omega) (by omega) (by omega)), B_X12_tellOne_121]
    simp only [gM G, if_true, true_and, D1, xv, xvi, D4.1, w1, bV_eq, done]
  by_cases z1 : s1.2 = 0
  · obtain ⟨n1, g1⟩ := fst1_le (e1 ▸ z1)
    obtain ⟨l1, l2, l3, l5⟩ := r1 z1
    have k1 := bd_tk k (f1.up fun _ _ => tkF_bd)
    obtain ⟨J, L', e, f, lo, m, q⟩ := m_tellHook (d + 2) (L := L) G k1 o nr hv ((f1 _ _ (by unfold tkF; omega)).trans D1) n1 ((f1 _ _ (by unfold tkF; omega)).trans D4.1) m1 z1 (l := tLt T) (nm := tNm T) ⟨l1, l2, l3, by omega, l5⟩ e2 e3 e4 e5
    have FF : Fi (rfF v) I J := (f1.up fun _ _ => tkF_rf).tr (f.up fun _ _ => hkM_rf n1)
    refine ⟨J, L', ?_, FF, lo, ?_⟩
    · rw [w64, if_neg (fun z => z (m1.ms z1).1.2.2.1)]
      simp only [e, bV_eq, if_true]
    · by_cases z6 : (tk K (nI 59) s5).2 = 0
      · obtain ⟨c1, c2, c3, c4, c5, c6⟩ := q z6
        have e6' := e6
        unfold fin at e6'
        rw [if_pos z6] at e6'
        obtain ⟨lt, -, -⟩ := okT _ _ e6'
        subst e6'
        have es' : tk K (nI 59) s5 = ((tk K (nI 59) s5).1, 0) := Prod.ext rfl z6
        have ff : ∀ a j, ¬ tkF a j → ¬ hkM v (tHo T) a j → J a j = I a j := fun a j x y => (f a j y).trans (f1 a j x)
        refine ⟨by rw [← es']; exact m, (FF _ _ (by unfold rfF; omega)).trans D1, D2.cg (ff _ _ (by unfold tkF; omega) (by unfold hkM enF; omega)) (fun a x y i hi => ff _ _ (by unfold tkF; omega) (by unfold hkM enF; omega)) ?_, D3.cg (ff _ _ (by unfold tkF; omega) (by unfold hkM enF; omega)) (fun a x y i hi => ff _ _ (by unfold tkF; omega) (by unfold hkM enF; omega)) ?_, ⟨c1, fun i hi => ?_⟩, ⟨?_, ?_, ?_⟩, D8.cg (ff _ _ (by unfold tkF; omega) (by unfold hkM enF; omega)) (ff _ _ (by unfold tkF; omega) (by unfold hkM enF; omega)) (fun a x y j => ff _ _ (by unfold tkF; omega) (by unfold hkM enF; omega)) (by omega), c6, c5⟩
        · intro i hi
          have hi' : i < tLo T := hi
          show upH (tSt T) (tHo T) _ _ _ (60 + i) = _ ∧ upH (tSt T) (tHo T) _ _ _ (10 + i) = _ ∧ upH (tSt T) (tHo T) _ _ _ (20 + i) = _
          unfold upH
          exact ⟨by rw [up1_o (by omega), up1_o (by omega), up1_o (by omega)], by rw [up1_o (by omega), up1_o (by omega), up1_o (by omega)], by rw [up1_o (by omega), up1_o (by omega), up1_o (by omega)]⟩
        · intro i hi
          have hi' : i < tSi T := hi
          show upH (tSt T) (tHo T) _ _ _ (30 + i) = _ ∧ upH (tSt T) (tHo T) _ _ _ (80 + i) = _
          unfold upH
          exact ⟨by rw [up1_o (by omega), up1_o (by omega), up1_o (by omega)], by rw [up1_o (by omega), up1_o (by omega), up1_o (by omega)]⟩
        · have hi' : i < tHo T + 1 := hi
          show J 401 (5 * v + i) = upH (tSt T) (tHo T) _ _ _ (70 + i) ∧ J 402 (5 * v + i) = upH (tSt T) (tHo T) _ _ _ (40 + i) ∧ J 403 (5 * v + i) = upH (tSt T) (tHo T) _ _ _ (50 + i)
          unfold upH
          by_cases ei : i = tHo T
          · rw [ei, up1_o (show ¬ 70 + tHo T = 50 + tHo T by omega), up1_o (show ¬ 70 + tHo T = 40 + tHo T by omega), up1_s, up1_o (show ¬ 40 + tHo T = 50 + tHo T by omega), up1_s, up1_s]
            exact ⟨c2, c3, c4⟩
          · have := D4.2 i (by omega)
            rw [up1_o (show ¬ 70 + i = 50 + tHo T by omega), up1_o (show ¬ 70 + i = 40 + tHo T by omega), up1_o (show ¬ 70 + i = 70 + tHo T by omega), up1_o (show ¬ 40 + i = 50 + tHo T by omega), up1_o (show ¬ 40 + i = 40 + tHo T by omega), up1_o (show ¬ 40 + i = 70 + tHo T by omega), up1_o (show ¬ 50 + i = 50 + tHo T by omega), up1_o (show ¬ 50 + i = 40 + tHo T by omega), up1_o (show ¬ 50 + i = 70 + tHo T by omega)]
            exact ⟨(ff _ _ (by unfold tkF; omega) (by unfold hkM enF; omega)).trans this.1, (ff _ _ (by unfold tkF; omega) (by unfold hkM enF; omega)).trans this.2.1, (ff _ _ (by unfold tkF; omega) (by unfold hkM enF; omega)).trans this.2.2⟩
        · show J 404 v = upH (tSt T) (tHo T) _ _ _ 0
          unfold upH
          rw [up1_o (by omega), up1_o (by omega), up1_o (by omega), ff _ _ (by unfold tkF; omega) (by unfold hkM enF; omega), D5]
        · show J 405 v = upH (tSt T) (tHo T) _ _ _ 1
          unfold upH
          rw [up1_o (by omega), up1_o (by omega), up1_o (by omega), ff _ _ (by unfold tkF; omega) (by unfold hkM enF; omega), D6]
        · show J 406 v = upH (tSt T) (tHo T) _ _ _ 2
          unfold upH
          rw [up1_o (by omega), up1_o (by omega), up1_o (by omega), ff _ _ (by unfold tkF; omega) (by unfold hkM enF; omega), D7]
      · unfold fin at e6
        rw [if_neg z6] at e6
        subst e6
        exact m.mf z6
  · have hf := m1.mf z1
    have e5' : tk K (nI 59) s5 = s1 := by rw [e5, e4, e3, e2, tks z1, tks z1, tks z1, tks z1, tks z1]
    unfold fin at e6
    rw [e5', if_neg z1] at e6
    subst e6
    exact ⟨J1, L, by rw [w64, if_pos hf.n0], f1.up fun _ _ => tkF_rf, fun _ _ _ => rfl, hf⟩
theorem m_onelaw (d : Nat) {S : mS} {I : mI} {L : mJ} {K V P : Nat → Int32} {N : Nat → Int64} (G : Gd S) (k : TKM I K V P) (o : PO K P) (nr : NR K N L) {v t : Nat} (hv : v < 2) {T : mTx} (h : MSt I K P (t, 0)) (hD : DRM I L P v t T) (hT : TOK K t T) (h0 : ¬ K t = nI 0) {res : TR} (hx : STX K V N t T res) {kl : Nat} (hk : kl < 4) (a : K t = nI (131 + kl)) (hl : SXlaw K V kl t T res) : ∃ J L', evM zcod (d + 8) 177 [.ref 384] (S, I, L) = some (none, (S, J, L')) ∧ Fi (rfF v) I J ∧ (∀ a j, ¬ a = 392 → L' a j = L a j) ∧ OnR J L' K P v res := by
  obtain ⟨hm, ho⟩ := h.ms rfl
  have hm' : MS I K t := hm
  have ht : t ≤ 400 := hm.1
  have okT := fun t' T' (e : res = Sum.inl (t', T')) => STX.ok (K := K) (V := V) (N := N) k.2.2 ht (e ▸ hx) hT
  obtain ⟨D1, D2, D3, D4, ⟨D5, D6, D7⟩, D8, D9, D10⟩ := hD
  obtain ⟨q1, q2, q3, q4, q5, q6, q7⟩ := hT
  have x1 : zin (nI t) 403 = True := ixT (by omega) (by omega)
  have x1i : zix (nI t) = t := ixI (by omega)
  have xv : zin (nI v) 2 = True := ixT hv (by omega)
  have xvi : zix (nI v) = v := ixI (by omega)
  have kt := (k.1 t ht hm'.2.2.2).1
  have w0 : evM zcod (d + 8) 177 [.ref 384] (S, I, L) = evk zcod none (d + 7) zc_X12_tellOne 0 [(0, .ref 384)] [] (S, I, L) := by rw [E_X12_tellOne]
  have e11 : I 384 11 = nI t := hm'.2.1
  have done : evk zcod none (d + 7) zc_X12_tellOne 260 [] [] = fun M => some (none, M) := by
    funext M
    obtain ⟨S', I', L'⟩ := M
    exact B_X12_tellOne_260 _ _ _ _
  have tks : ∀ {x : Int32} {s : mSt}, ¬ s.2 = 0 → tk K x s = s := fun z => by
    unfold tk
    rw [if_neg z]
  obtain ⟨J1, w1, f1, m1⟩ := m_goL (d + 5) (L := L) G k h rfl h0
  have k1 := bd_tk k (f1.up fun _ _ => tkF_bd)
  obtain ⟨J, e, f, r⟩ := m_lawSt (d + 1) (L := L) G k1 hv ht ((f1 _ _ (by unfold tkF; omega)).trans D1) hk m1 (T := T) (D8.cg (f1 _ _ (by unfold tkF; omega)) (f1 _ _ (by unfold tkF; omega)) (fun a x y j => f1 _ _ (by unfold tkF; omega)) (Nat.le_refl _)) hl
  have kl4 : kl = 0 ∨ kl = 1 ∨ kl = 2 ∨ kl = 3 := by omega
  obtain ⟨s23, s0, s26⟩ := law_s23 kl hk
  have FF : Fi (rfF v) I J := (f1.up fun _ _ => tkF_rf).tr (f.up fun _ _ => ltM_rf hk)
  refine ⟨J, L, ?_, FF, fun _ _ _ => rfl, ?_⟩
  · rw [w0, B_X12_tellOne_0]
    have w207 : evk zcod none (d + 7) zc_X12_tellOne 207 [(0, .ref 384)] [] (S, I, L) = some (none, (S, J, L)) := by
      rw [B_X12_tellOne_207]
      simp only [gM G, if_true, true_and, e11, x1, x1i, kt, a, gk_st.2.2 kl hk, s23, s0, if_false, s26]
      rw [B_X12_tellOne_243]
      simp only [gM G, if_true, hm'.2.2.1, Int32.le_refl]
      rw [B_X12_tellOne_251]
      simp only [gM G, if_true, w1, bV_eq, e, done]
    simp only [gM G, if_true, true_and, e11, x1, x1i, kt, a, gk_st.2.2 kl hk]
    rw [if_neg (n_ne (by omega) (by omega) (by omega)), if_neg (n_ne (by omega) (by omega) (by omega)), if_neg (n_ne (by omega) (by omega) (by omega))]
    rcases kl4 with c | c | c | c
    · rw [if_pos (by rw [c]), w207]
    · rw [if_neg (n_ne (by omega) (by omega) (by omega)), if_pos (by rw [c]), w207]
    · rw [if_neg (n_ne (by omega) (by omega) (by omega)), if_neg (n_ne (by omega) (by omega) (by omega)), if_pos (by rw [c]), w207]
    · rw [if_neg (n_ne (by omega) (by omega) (by omega)), if_neg (n_ne (by omega) (by omega) (by omega)), if_neg (n_ne (by omega) (by omega) (by omega)), if_pos (by rw [c]), w207]
  · match res, r with
    | Sum.inr (t', f'), r => exact r
    | Sum.inl (t', T'), ⟨r1, r2, r3, r4, r5, r6⟩ =>
      have ff : ∀ a j, ¬ tkF a j → ¬ ltM v kl a j → J a j = I a j := fun a j x y => (f a j y).trans (f1 a j x)
      have b1 : tLo T' = tLo T := congrArg (fun x => x.1) r3
      have b2 : tSi T' = tSi T := congrArg (fun x => x.2.1) r3
      have b3 : tHo T' = tHo T := congrArg (fun x => x.2.2) r3
      refine ⟨r1, (FF _ _ (by unfold rfF; omega)).trans D1, ?_, ?_, ?_, ?_, r2, ?_, ?_⟩
      · rw [b1, r4]
        exact D2.cg (ff _ _ (by unfold tkF; omega) (by unfold ltM lwF; omega)) (fun a x y i hi => ff _ _ (by unfold tkF; omega) (by unfold ltM lwF; omega)) (fun _ _ => ⟨rfl, rfl, rfl⟩)
      · rw [b2, r4]
        exact D3.cg (ff _ _ (by unfold tkF; omega) (by unfold ltM lwF; omega)) (fun a x y i hi => ff _ _ (by unfold tkF; omega) (by unfold ltM lwF; omega)) (fun _ _ => ⟨rfl, rfl⟩)
      · rw [b3, r4]
        exact D4.cg (ff _ _ (by unfold tkF; omega) (by unfold ltM lwF; omega)) (fun a x y i hi => ff _ _ (by unfold tkF; omega) (by unfold ltM lwF; omega)) (fun _ _ => ⟨rfl, rfl, rfl⟩)
      · rw [r4]
        exact ⟨(ff _ _ (by unfold tkF; omega) (by unfold ltM lwF; omega)).trans D5, (ff _ _ (by unfold tkF; omega) (by unfold ltM lwF; omega)).trans D6, (ff _ _ (by unfold tkF; omega) (by unfold ltM lwF; omega)).trans D7⟩
      · rw [r5]
        exact D9.cg (ff _ _ (by unfold tkF; omega) (by unfold ltM lwF; omega))
      · rw [r6]
        exact D10.cg (ff _ _ (by unfold tkF; omega) (by unfold ltM lwF; omega)) (ff _ _ (by unfold tkF; omega) (by unfold ltM lwF; omega))
theorem m_oneset0 (d : Nat) {S : mS} {I : mI} {L : mJ} {K V P : Nat → Int32} {N : Nat → Int64} (G : Gd S) (k : TKM I K V P) (o : PO K P) (nr : NR K N L) {v t : Nat} (hv : v < 2) {T : mTx} (h : MSt I K P (t, 0)) (hD : DRM I L P v t T) (hT : TOK K t T) (h0 : ¬ K t = nI 0) {res : TR} (hx : STX K V N t T res) (a : K t = nI 135) {s1 s2 : mSt} (e1 : s1 = tk K (K t) (t, 0)) (e2 : s2 = tk K (nI 3) s1) (e6 : res = fin (tk K (nI 59) s2) (T.1, up1 (tSt T) 0 (V s1.1), tLw T, tNm T, nbl V (nI 1) (nI 1) (nI 99) s1 (tLt T))) : ∃ J L', evM zcod (d + 8) 177 [.ref 384] (S, I, L) = some (none, (S, J, L')) ∧ Fi (rfF v) I J ∧ (∀ a j, ¬ a = 392 → L' a j = L a j) ∧ OnR J L' K P v res := by
  obtain ⟨hm, ho⟩ := h.ms rfl
  have hm' : MS I K t := hm
  have ht : t ≤ 400 := hm.1
  have okT := fun t' T' (e : res = Sum.inl (t', T')) => STX.ok (K := K) (V := V) (N := N) k.2.2 ht (e ▸ hx) hT
  obtain ⟨D1, D2, D3, D4, ⟨D5, D6, D7⟩, D8, D9, D10⟩ := hD
  obtain ⟨q1, q2, q3, q4, q5, q6, q7⟩ := hT
  have x1 : zin (nI t) 403 = True := ixT (by omega) (by omega)
  have x1i : zix (nI t) = t := ixI (by omega)
  have xv : zin (nI v) 2 = True := ixT hv (by omega)
  have xvi : zix (nI v) = v := ixI (by omega)
  have kt := (k.1 t ht hm'.2.2.2).1
  have w0 : evM zcod (d + 8) 177 [.ref 384] (S, I, L) = evk zcod none (d + 7) zc_X12_tellOne 0 [(0, .ref 384)] [] (S, I, L) := by rw [E_X12_tellOne]
  have e11 : I 384 11 = nI t := hm'.2.1
  have done : evk zcod none (d + 7) zc_X12_tellOne 260 [] [] = fun M => some (none, M) := by
    funext M
    obtain ⟨S', I', L'⟩ := M
    exact B_X12_tellOne_260 _ _ _ _
  have tks : ∀ {x : Int32} {s : mSt}, ¬ s.2 = 0 → tk K x s = s := fun z => by
    unfold tk
    rw [if_neg z]
  obtain ⟨y, J, e, f, m, q⟩ := m_toldInt (d + 2) (L := L) G k o h h0 (nI 1) (nI 99) (l := tLt T) ⟨D10, q6⟩
  rw [← e1, ← e2] at m q
  let J2 := uI J 404 v y
  have FF : Fi (rfF v) I J2 := (f.up fun _ _ => bdF_rf).tr (Fi.u Fi.rf (Or.inr (Or.inl ⟨by omega, rfl⟩)))
  have g0 : ∀ j, J2 384 j = J 384 j := fun j => uI_off (by omega)
  refine ⟨J2, L, ?_, FF, fun _ _ _ => rfl, ?_⟩
  · rw [w0, B_X12_tellOne_0]
    simp only [gM G, if_true, true_and, e11, x1, x1i, kt, a, gk_st.2.1.1]
    rw [if_neg (n_ne (by omega) (by omega) (by omega)), if_neg (n_ne (by omega) (by omega) (by omega)), if_neg (n_ne (by omega) (by omega) (by omega)), if_neg (n_ne (by omega) (by omega) (by omega)), if_neg (n_ne (by omega) (by omega) (by omega)), if_neg (n_ne (by omega) (by omega) (by omega)), if_neg (n_ne (by omega) (by omega) (by omega)), B_X12_tellOne_149]
    simp only [gM G, if_true, true_and, D1, xv, xvi, e, bI_eq, done]
    rfl
  · by_cases z6 : (tk K (nI 59) s2).2 = 0
    · obtain ⟨b1, b2⟩ := q z6
      have e6' := e6
      unfold fin at e6'
      rw [if_pos z6] at e6'
      obtain ⟨lt, -, -⟩ := okT _ _ e6'
      subst e6'
      have es' : tk K (nI 59) s2 = ((tk K (nI 59) s2).1, 0) := Prod.ext rfl z6
      have gg : ∀ a j, ¬ a = 404 → ¬ bdF a j → J2 a j = I a j := fun a j x y => (uI_off x).trans (f a j y)
      refine ⟨by rw [← es']; exact m.of g0, (gg _ _ (by omega) (by unfold bdF; omega)).trans D1, D2.cg (gg _ _ (by omega) (by unfold bdF; omega)) (fun a x y i hi => gg _ _ (by omega) (by unfold bdF; omega)) ?_, D3.cg (gg _ _ (by omega) (by unfold bdF; omega)) (fun a x y i hi => gg _ _ (by omega) (by unfold bdF; omega)) ?_, D4.cg (gg _ _ (by omega) (by unfold bdF; omega)) (fun a x y i hi => gg _ _ (by omega) (by unfold bdF; omega)) ?_, ⟨?_, ?_, ?_⟩, D8.cg (gg _ _ (by omega) (by unfold bdF; omega)) (gg _ _ (by omega) (by unfold bdF; omega)) (fun a x y j => gg _ _ (by omega) (by unfold bdF; omega)) (by omega), D9.cg (gg _ _ (by omega) (by unfold bdF; omega)), b2.cg (g0 _) (g0 _)⟩
      · intro i hi
        show up1 (tSt T) 0 _ (60 + i) = _ ∧ up1 (tSt T) 0 _ (10 + i) = _ ∧ up1 (tSt T) 0 _ (20 + i) = _
        exact ⟨up1_o (by omega), up1_o (by omega), up1_o (by omega)⟩
      · intro i hi
        show up1 (tSt T) 0 _ (30 + i) = _ ∧ up1 (tSt T) 0 _ (80 + i) = _
        exact ⟨up1_o (by omega), up1_o (by omega)⟩
      · intro i hi
        show up1 (tSt T) 0 _ (70 + i) = _ ∧ up1 (tSt T) 0 _ (40 + i) = _ ∧ up1 (tSt T) 0 _ (50 + i) = _
        exact ⟨up1_o (by omega), up1_o (by omega), up1_o (by omega)⟩
      · show J2 404 v = up1 (tSt T) 0 (V s1.1) 0
        rw [up1_s, ← b1]
        exact uI_same _ _ _ _
      · show J2 405 v = up1 (tSt T) 0 (V s1.1) 1
        rw [up1_o (by omega), gg _ _ (by omega) (by unfold bdF; omega), D6]
      · show J2 406 v = up1 (tSt T) 0 (V s1.1) 2
        rw [up1_o (by omega), gg _ _ (by omega) (by unfold bdF; omega), D7]
    · unfold fin at e6
      rw [if_neg z6] at e6
      subst e6
      exact (m.of g0).mf z6
theorem m_oneset1 (d : Nat) {S : mS} {I : mI} {L : mJ} {K V P : Nat → Int32} {N : Nat → Int64} (G : Gd S) (k : TKM I K V P) (o : PO K P) (nr : NR K N L) {v t : Nat} (hv : v < 2) {T : mTx} (h : MSt I K P (t, 0)) (hD : DRM I L P v t T) (hT : TOK K t T) (h0 : ¬ K t = nI 0) {res : TR} (hx : STX K V N t T res) (a : K t = nI 136) {s1 s2 : mSt} (e1 : s1 = tk K (K t) (t, 0)) (e2 : s2 = tk K (nI 3) s1) (e6 : res = fin (tk K (nI 59) s2) (T.1, up1 (tSt T) 1 (V s1.1), tLw T, tNm T, nbl V (nI 1) (nI 0) (nI 100) s1 (tLt T))) : ∃ J L', evM zcod (d + 8) 177 [.ref 384] (S, I, L) = some (none, (S, J, L')) ∧ Fi (rfF v) I J ∧ (∀ a j, ¬ a = 392 → L' a j = L a j) ∧ OnR J L' K P v res := by
  obtain ⟨hm, ho⟩ := h.ms rfl
  have hm' : MS I K t := hm
  have ht : t ≤ 400 := hm.1
  have okT := fun t' T' (e : res = Sum.inl (t', T')) => STX.ok (K := K) (V := V) (N := N) k.2.2 ht (e ▸ hx) hT
  obtain ⟨D1, D2, D3, D4, ⟨D5, D6, D7⟩, D8, D9, D10⟩ := hD
  obtain ⟨q1, q2, q3, q4, q5, q6, q7⟩ := hT
  have x1 : zin (nI t) 403 = True := ixT (by omega) (by omega)
  have x1i : zix (nI t) = t := ixI (by omega)
  have xv : zin (nI v) 2 = True := ixT hv (by omega)
  have xvi : zix (nI v) = v := ixI (by omega)
  have kt := (k.1 t ht hm'.2.2.2).1
  have w0 : evM zcod (d + 8) 177 [.ref 384] (S, I, L) = evk zcod none (d + 7) zc_X12_tellOne 0 [(0, .ref 384)] [] (S, I, L) := by rw [E_X12_tellOne]
  have e11 : I 384 11 = nI t := hm'.2.1
  have done : evk zcod none (d + 7) zc_X12_tellOne 260 [] [] = fun M => some (none, M) := by
    funext M
    obtain ⟨S', I', L'⟩ := M
    exact B_X12_tellOne_260 _ _ _ _
  have tks : ∀ {x : Int32} {s : mSt}, ¬ s.2 = 0 → tk K x s = s := fun z => by
    unfold tk
    rw [if_neg z]
  obtain ⟨y, J, e, f, m, q⟩ := m_toldInt (d + 2) (L := L) G k o h h0 (nI 0) (nI 100) (l := tLt T) ⟨D10, q6⟩
  rw [← e1, ← e2] at m q
  let J2 := uI J 405 v y
  have FF : Fi (rfF v) I J2 := (f.up fun _ _ => bdF_rf).tr (Fi.u Fi.rf (Or.inr (Or.inl ⟨by omega, rfl⟩)))
  have g0 : ∀ j, J2 384 j = J 384 j := fun j => uI_off (by omega)
  refine ⟨J2, L, ?_, FF, fun _ _ _ => rfl, ?_⟩
  · rw [w0, B_X12_tellOne_0]
    simp only [gM G, if_true, true_and, e11, x1, x1i, kt, a, gk_st.2.1.2.1]
    rw [if_neg (n_ne (by omega) (by omega) (by omega)), if_neg (n_ne (by omega) (by omega) (by omega)), if_neg (n_ne (by omega) (by omega) (by omega)), if_neg (n_ne (by omega) (by omega) (by omega)), if_neg (n_ne (by omega) (by omega) (by omega)), if_neg (n_ne (by omega) (by omega) (by omega)), if_neg (n_ne (by omega) (by omega) (by omega)), if_neg (n_ne (by omega) (by omega) (by omega)), B_X12_tellOne_168]
    simp only [gM G, if_true, true_and, D1, xv, xvi, e, bI_eq, done]
    rfl
  · by_cases z6 : (tk K (nI 59) s2).2 = 0
    · obtain ⟨b1, b2⟩ := q z6
      have e6' := e6
      unfold fin at e6'
      rw [if_pos z6] at e6'
      obtain ⟨lt, -, -⟩ := okT _ _ e6'
      subst e6'
      have es' : tk K (nI 59) s2 = ((tk K (nI 59) s2).1, 0) := Prod.ext rfl z6
      have gg : ∀ a j, ¬ a = 405 → ¬ bdF a j → J2 a j = I a j := fun a j x y => (uI_off x).trans (f a j y)
      refine ⟨by rw [← es']; exact m.of g0, (gg _ _ (by omega) (by unfold bdF; omega)).trans D1, D2.cg (gg _ _ (by omega) (by unfold bdF; omega)) (fun a x y i hi => gg _ _ (by omega) (by unfold bdF; omega)) ?_, D3.cg (gg _ _ (by omega) (by unfold bdF; omega)) (fun a x y i hi => gg _ _ (by omega) (by unfold bdF; omega)) ?_, D4.cg (gg _ _ (by omega) (by unfold bdF; omega)) (fun a x y i hi => gg _ _ (by omega) (by unfold bdF; omega)) ?_, ⟨?_, ?_, ?_⟩, D8.cg (gg _ _ (by omega) (by unfold bdF; omega)) (gg _ _ (by omega) (by unfold bdF; omega)) (fun a x y j => gg _ _ (by omega) (by unfold bdF; omega)) (by omega), D9.cg (gg _ _ (by omega) (by unfold bdF; omega)), b2.cg (g0 _) (g0 _)⟩
      · intro i hi
        show up1 (tSt T) 1 _ (60 + i) = _ ∧ up1 (tSt T) 1 _ (10 + i) = _ ∧ up1 (tSt T) 1 _ (20 + i) = _
        exact ⟨up1_o (by omega), up1_o (by omega), up1_o (by omega)⟩
      · intro i hi
        show up1 (tSt T) 1 _ (30 + i) = _ ∧ up1 (tSt T) 1 _ (80 + i) = _
        exact ⟨up1_o (by omega), up1_o (by omega)⟩
      · intro i hi
        show up1 (tSt T) 1 _ (70 + i) = _ ∧ up1 (tSt T) 1 _ (40 + i) = _ ∧ up1 (tSt T) 1 _ (50 + i) = _
        exact ⟨up1_o (by omega), up1_o (by omega), up1_o (by omega)⟩
      · show J2 404 v = up1 (tSt T) 1 (V s1.1) 0
        rw [up1_o (by omega), gg _ _ (by omega) (by unfold bdF; omega), D5]
      · show J2 405 v = up1 (tSt T) 1 (V s1.1) 1
        rw [up1_s, ← b1]
        exact uI_same _ _ _ _
      · show J2 406 v = up1 (tSt T) 1 (V s1.1) 2
        rw [up1_o (by omega), gg _ _ (by omega) (by unfold bdF; omega), D7]
    · unfold fin at e6
      rw [if_neg z6] at e6
      subst e6
      exact (m.of g0).mf z6
theorem m_oneset2 (d : Nat) {S : mS} {I : mI} {L : mJ} {K V P : Nat → Int32} {N : Nat → Int64} (G : Gd S) (k : TKM I K V P) (o : PO K P) (nr : NR K N L) {v t : Nat} (hv : v < 2) {T : mTx} (h : MSt I K P (t, 0)) (hD : DRM I L P v t T) (hT : TOK K t T) (h0 : ¬ K t = nI 0) {res : TR} (hx : STX K V N t T res) (a : K t = nI 137) {s1 s2 : mSt} (e1 : s1 = tk K (K t) (t, 0)) (e2 : s2 = tk K (nI 3) s1) (e6 : res = fin (tk K (nI 59) s2) (T.1, up1 (tSt T) 2 (V s1.1), tLw T, tNm T, nbl V (nI 1) (nI 0) (nI 9999) s1 (tLt T))) : ∃ J L', evM zcod (d + 8) 177 [.ref 384] (S, I, L) = some (none, (S, J, L')) ∧ Fi (rfF v) I J ∧ (∀ a j, ¬ a = 392 → L' a j = L a j) ∧ OnR J L' K P v res := by
  obtain ⟨hm, ho⟩ := h.ms rfl
  have hm' : MS I K t := hm
  have ht : t ≤ 400 := hm.1
  have okT := fun t' T' (e : res = Sum.inl (t', T')) => STX.ok (K := K) (V := V) (N := N) k.2.2 ht (e ▸ hx) hT
  obtain ⟨D1, D2, D3, D4, ⟨D5, D6, D7⟩, D8, D9, D10⟩ := hD
  obtain ⟨q1, q2, q3, q4, q5, q6, q7⟩ := hT
  have x1 : zin (nI t) 403 = True := ixT (by omega) (by omega)
  have x1i : zix (nI t) = t := ixI (by omega)
  have xv : zin (nI v) 2 = True := ixT hv (by omega)
  have xvi : zix (nI v) = v := ixI (by omega)
  have kt := (k.1 t ht hm'.2.2.2).1
  have w0 : evM zcod (d + 8) 177 [.ref 384] (S, I, L) = evk zcod none (d + 7) zc_X12_tellOne 0 [(0, .ref 384)] [] (S, I, L) := by rw [E_X12_tellOne]
  have e11 : I 384 11 = nI t := hm'.2.1
  have done : evk zcod none (d + 7) zc_X12_tellOne 260 [] [] = fun M => some (none, M) := by
    funext M
    obtain ⟨S', I', L'⟩ := M
    exact B_X12_tellOne_260 _ _ _ _
  have tks : ∀ {x : Int32} {s : mSt}, ¬ s.2 = 0 → tk K x s = s := fun z => by
    unfold tk
    rw [if_neg z]
  obtain ⟨y, J, e, f, m, q⟩ := m_toldInt (d + 2) (L := L) G k o h h0 (nI 0) (nI 9999) (l := tLt T) ⟨D10, q6⟩
  rw [← e1, ← e2] at m q
  let J2 := uI J 406 v y
  have FF : Fi (rfF v) I J2 := (f.up fun _ _ => bdF_rf).tr (Fi.u Fi.rf (Or.inr (Or.inl ⟨by omega, rfl⟩)))
  have g0 : ∀ j, J2 384 j = J 384 j := fun j => uI_off (by omega)
  refine ⟨J2, L, ?_, FF, fun _ _ _ => rfl, ?_⟩
  · rw [w0, B_X12_tellOne_0]
    simp only [gM G, if_true, true_and, e11, x1, x1i, kt, a, gk_st.2.1.2.2]
    rw [if_neg (n_ne (by omega) (by omega) (by omega)), if_neg (n_ne (by omega) (by omega) (by omega)), if_neg (n_ne (by omega) (by omega) (by omega)), if_neg (n_ne (by omega) (by omega) (by omega)), if_neg (n_ne (by omega) (by omega) (by omega)), if_neg (n_ne (by omega) (by omega) (by omega)), if_neg (n_ne (by omega) (by omega) (by omega)), if_neg (n_ne (by omega) (by omega) (by omega)), if_neg (n_ne (by omega) (by omega) (by omega)), B_X12_tellOne_187]
    simp only [gM G, if_true, true_and, D1, xv, xvi, e, bI_eq, done]
    rfl
  · by_cases z6 : (tk K (nI 59) s2).2 = 0
    · obtain ⟨b1, b2⟩ := q z6
      have e6' := e6
      unfold fin at e6'
      rw [if_pos z6] at e6'
      obtain ⟨lt, -, -⟩ := okT _ _ e6'
      subst e6'
      have es' : tk K (nI 59) s2 = ((tk K (nI 59) s2).1, 0) := Prod.ext rfl z6
      have gg : ∀ a j, ¬ a = 406 → ¬ bdF a j → J2 a j = I a j := fun a j x y => (uI_off x).trans (f a j y)
      refine ⟨by rw [← es']; exact m.of g0, (gg _ _ (by omega) (by unfold bdF; omega)).trans D1, D2.cg (gg _ _ (by omega) (by unfold bdF; omega)) (fun a x y i hi => gg _ _ (by omega) (by unfold bdF; omega)) ?_, D3.cg (gg _ _ (by omega) (by unfold bdF; omega)) (fun a x y i hi => gg _ _ (by omega) (by unfold bdF; omega)) ?_, D4.cg (gg _ _ (by omega) (by unfold bdF; omega)) (fun a x y i hi => gg _ _ (by omega) (by unfold bdF; omega)) ?_, ⟨?_, ?_, ?_⟩, D8.cg (gg _ _ (by omega) (by unfold bdF; omega)) (gg _ _ (by omega) (by unfold bdF; omega)) (fun a x y j => gg _ _ (by omega) (by unfold bdF; omega)) (by omega), D9.cg (gg _ _ (by omega) (by unfold bdF; omega)), b2.cg (g0 _) (g0 _)⟩
      · intro i hi
        show up1 (tSt T) 2 _ (60 + i) = _ ∧ up1 (tSt T) 2 _ (10 + i) = _ ∧ up1 (tSt T) 2 _ (20 + i) = _
        exact ⟨up1_o (by omega), up1_o (by omega), up1_o (by omega)⟩
      · intro i hi
        show up1 (tSt T) 2 _ (30 + i) = _ ∧ up1 (tSt T) 2 _ (80 + i) = _
        exact ⟨up1_o (by omega), up1_o (by omega)⟩
      · intro i hi
        show up1 (tSt T) 2 _ (70 + i) = _ ∧ up1 (tSt T) 2 _ (40 + i) = _ ∧ up1 (tSt T) 2 _ (50 + i) = _
        exact ⟨up1_o (by omega), up1_o (by omega), up1_o (by omega)⟩
      · show J2 404 v = up1 (tSt T) 2 (V s1.1) 0
        rw [up1_o (by omega), gg _ _ (by omega) (by unfold bdF; omega), D5]
      · show J2 405 v = up1 (tSt T) 2 (V s1.1) 1
        rw [up1_o (by omega), gg _ _ (by omega) (by unfold bdF; omega), D6]
      · show J2 406 v = up1 (tSt T) 2 (V s1.1) 2
        rw [up1_s, ← b1]
        exact uI_same _ _ _ _
    · unfold fin at e6
      rw [if_neg z6] at e6
      subst e6
      exact (m.of g0).mf z6
theorem m_oneno (d : Nat) {S : mS} {I : mI} {L : mJ} {K V P : Nat → Int32} {N : Nat → Int64} (G : Gd S) (k : TKM I K V P) (o : PO K P) (nr : NR K N L) {v t : Nat} (hv : v < 2) {T : mTx} (h : MSt I K P (t, 0)) (hD : DRM I L P v t T) (hT : TOK K t T) (h0 : ¬ K t = nI 0) {res : TR} (hx : STX K V N t T res) (a : ∀ n, 128 ≤ n → n ≤ 137 → ¬ K t = nI n) (e6 : res = Sum.inr (t, 1)) : ∃ J L', evM zcod (d + 8) 177 [.ref 384] (S, I, L) = some (none, (S, J, L')) ∧ Fi (rfF v) I J ∧ (∀ a j, ¬ a = 392 → L' a j = L a j) ∧ OnR J L' K P v res := by
  obtain ⟨hm, ho⟩ := h.ms rfl
  have hm' : MS I K t := hm
  have ht : t ≤ 400 := hm.1
  have okT := fun t' T' (e : res = Sum.inl (t', T')) => STX.ok (K := K) (V := V) (N := N) k.2.2 ht (e ▸ hx) hT
  obtain ⟨D1, D2, D3, D4, ⟨D5, D6, D7⟩, D8, D9, D10⟩ := hD
  obtain ⟨q1, q2, q3, q4, q5, q6, q7⟩ := hT
  have x1 : zin (nI t) 403 = True := ixT (by omega) (by omega)
  have x1i : zix (nI t) = t := ixI (by omega)
  have xv : zin (nI v) 2 = True := ixT hv (by omega)
  have xvi : zix (nI v) = v := ixI (by omega)
  have kt := (k.1 t ht hm'.2.2.2).1
  have w0 : evM zcod (d + 8) 177 [.ref 384] (S, I, L) = evk zcod none (d + 7) zc_X12_tellOne 0 [(0, .ref 384)] [] (S, I, L) := by rw [E_X12_tellOne]
  have e11 : I 384 11 = nI t := hm'.2.1
  have done : evk zcod none (d + 7) zc_X12_tellOne 260 [] [] = fun M => some (none, M) := by
    funext M
    obtain ⟨S', I', L'⟩ := M
    exact B_X12_tellOne_260 _ _ _ _
  have tks : ∀ {x : Int32} {s : mSt}, ¬ s.2 = 0 → tk K x s = s := fun z => by
    unfold tk
    rw [if_neg z]
  have e := m_fail (d + 6) (L := L) G k hm' (f := 1) (Or.inl rfl)
  have m1 : MF (uI (uI I 384 13 (nI 1)) 384 14 (P t)) P t 1 := mf_of (K := K) (Or.inl rfl)
  subst e6
  refine ⟨_, L, ?_, Fi.u (Fi.u (k := 13) (x := nI 1) Fi.rf (Or.inl ⟨rfl, by omega⟩)) (k := 14) (x := P t) (Or.inl ⟨rfl, by omega⟩), fun _ _ _ => rfl, m1⟩
  obtain ⟨n, hn, en⟩ := k.2.1 t
  have ln := kK_lt n hn
  have kt' : I 387 t = nI (gkN n) := by rw [kt, en, gk_nI ln]
  have nn : ¬ (128 ≤ n ∧ n ≤ 137) := fun z => a n z.1 z.2 en
  have g42 := gkN_lt n hn
  have gr := gk_no n hn nn
  have w238 : ∀ x : Int32, evk zcod none (d + 7) zc_X12_tellOne 238 [(0, .ref 384), (1, .int x)] [] (S, I, L) = some (none, (S, uI (uI I 384 13 (nI 1)) 384 14 (P t), L)) := by
    intro x
    rw [B_X12_tellOne_238]
    simp only [gM G, if_true, e, bV_eq]
    rw [B_X12_tellOne_243]
    simp only [gM G, if_true, m1.gt, if_false]
  rw [w0, B_X12_tellOne_0]
  simp only [gM G, if_true, true_and, e11, x1, x1i, kt']
  rw [if_neg (n_ne (by omega) (by omega) (by omega)), if_neg (n_ne (by omega) (by omega) (by omega)), if_neg (n_ne (by omega) (by omega) (by omega)), if_neg (n_ne (by omega) (by omega) (by omega)), if_neg (n_ne (by omega) (by omega) (by omega)), if_neg (n_ne (by omega) (by omega) (by omega)), if_neg (n_ne (by omega) (by omega) (by omega)), if_neg (n_ne (by omega) (by omega) (by omega)), if_neg (n_ne (by omega) (by omega) (by omega)), if_neg (n_ne (by omega) (by omega) (by omega)), B_X12_tellOne_207]
  simp only [gM G, if_true, true_and, e11, x1, x1i, kt']
  obtain ⟨c1, c2⟩ := n23 (gkN n) g42
  rcases gr with z | z
  · rw [if_pos (c1 z), w238]
  · rw [if_neg (c2 z).1, if_neg (c2 z).2, w238]
theorem m_tellOne (d : Nat) {S : mS} {I : mI} {L : mJ} {K V P : Nat → Int32} {N : Nat → Int64} (G : Gd S) (k : TKM I K V P) (o : PO K P) (nr : NR K N L) {v t : Nat} (hv : v < 2) {T : mTx} (h : MSt I K P (t, 0)) (hD : DRM I L P v t T) (hT : TOK K t T) (h0 : ¬ K t = nI 0) {res : TR} (hx : STX K V N t T res) : ∃ J L', evM zcod (d + 8) 177 [.ref 384] (S, I, L) = some (none, (S, J, L')) ∧ Fi (rfF v) I J ∧ (∀ a j, ¬ a = 392 → L' a j = L a j) ∧ OnR J L' K P v res := by
  rcases hx with ⟨a, s1, s2, s3, s4, s5, e1, e2, e3, e4, e5, e6⟩ | ⟨a, s1, s2, s3, s4, s5, e1, e2, e3, e4, e5, e6⟩ | ⟨a, s1, s2, s3, s4, s5, e1, e2, e3, e4, e5, e6⟩ | ⟨kl, hk, a, hl⟩ | ⟨a, s1, s2, e1, e2, e6⟩ | ⟨a, s1, s2, e1, e2, e6⟩ | ⟨a, s1, s2, e1, e2, e6⟩ | ⟨a, e6⟩
  · exact m_oneload d G k o nr hv h hD hT h0 (Or.inl ⟨a, s1, s2, s3, s4, s5, e1, e2, e3, e4, e5, e6⟩) a e1 e2 e3 e4 e5 e6
  · exact m_onesilk d G k o nr hv h hD hT h0 (Or.inr (Or.inl ⟨a, s1, s2, s3, s4, s5, e1, e2, e3, e4, e5, e6⟩)) a e1 e2 e3 e4 e5 e6
  · exact m_onehook d G k o nr hv h hD hT h0 (Or.inr (Or.inr (Or.inl ⟨a, s1, s2, s3, s4, s5, e1, e2, e3, e4, e5, e6⟩))) a e1 e2 e3 e4 e5 e6
  · exact m_onelaw d G k o nr hv h hD hT h0 (Or.inr (Or.inr (Or.inr (Or.inl ⟨kl, hk, a, hl⟩)))) hk a hl
  · exact m_oneset0 d G k o nr hv h hD hT h0 (Or.inr (Or.inr (Or.inr (Or.inr (Or.inl ⟨a, s1, s2, e1, e2, e6⟩))))) a e1 e2 e6
  · exact m_oneset1 d G k o nr hv h hD hT h0 (Or.inr (Or.inr (Or.inr (Or.inr (Or.inr (Or.inl ⟨a, s1, s2, e1, e2, e6⟩)))))) a e1 e2 e6
  · exact m_oneset2 d G k o nr hv h hD hT h0 (Or.inr (Or.inr (Or.inr (Or.inr (Or.inr (Or.inr (Or.inl ⟨a, s1, s2, e1, e2, e6⟩))))))) a e1 e2 e6
  · exact m_oneno d G k o nr hv h hD hT h0 (Or.inr (Or.inr (Or.inr (Or.inr (Or.inr (Or.inr (Or.inr ⟨a, e6⟩))))))) a e6
