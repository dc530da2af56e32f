/-! a text as it is told: statement by statement, the same for both sides -/
abbrev TR : Type := Sum (Nat × mTx) (Nat × Nat)
def tLo (T : mTx) : Nat := T.1.1
def tSi (T : mTx) : Nat := T.1.2.1
def tHo (T : mTx) : Nat := T.1.2.2
def tSt (T : mTx) : Nat → Int32 := T.2.1
def tLw (T : mTx) : Nat → mLaw := T.2.2.1
def tNm (T : mTx) : List Nat := T.2.2.2.1
def tLt (T : mTx) : Nat × Nat := T.2.2.2.2
def fin (s : mSt) (T : mTx) : TR := if s.2 = 0 then Sum.inl (s.1, T) else Sum.inr s
def upW (lw : Nat → mLaw) (k : Nat) (x : mLaw) : Nat → mLaw := fun j => if j = k then x else lw j
def SXload (K V : Nat → Int32) (N : Nat → Int64) (t : Nat) (T : mTx) (res : TR) : Prop := ∃ s1 s2 s3 s4 s5 : mSt, s1 = fst1 K (tLo T) 7 t ∧ s2 = tk K (nI 2) s1 ∧ s3 = tk K (nI 3) s2 ∧ s4 = tk K (nI 3) s3 ∧ s5 = tk K (nI 3) s4 ∧ res = fin (tk K (nI 59) s5) ((tLo T + 1, tSi T, tHo T), upL (tSt T) (tLo T) (V s2.1) (V s3.1) (V s4.1), tLw T, tNm T ++ [s1.1], nbl V (nI 1) (nI 0) (nI 99) s4 (nbl V (nI 1) (nI 1) (nI 9) s3 (nbl V (nI 1) (nI 0) (nI 19) s2 (nml N (tNm T) s1 (tLt T)))))
def SXhook (K V : Nat → Int32) (N : Nat → Int64) (t : Nat) (T : mTx) (res : TR) : Prop := ∃ s1 s2 s3 s4 s5 : mSt, s1 = fst1 K (tHo T) 5 t ∧ s2 = tk K (nI 2) s1 ∧ s3 = tk K (nI 3) s2 ∧ s4 = tk K (nI 3) s3 ∧ s5 = tk K (nI 3) s4 ∧ res = fin (tk K (nI 59) s5) ((tLo T, tSi T, tHo T + 1), upH (tSt T) (tHo T) (V s2.1) (V s3.1) (V s4.1), tLw T, tNm T ++ [s1.1], nbl V (nI 1) (nI 1) (nI 9) s4 (nbl V (nI 1) (nI 0) (nI 5) s3 (nbl V (nI 1) (nI 0) (nI 19) s2 (nml N (tNm T) s1 (tLt T)))))
def SXsilk (K V : Nat → Int32) (N : Nat → Int64) (t : Nat) (T : mTx) (res : TR) : Prop := ∃ s1 s2 s3 s4 s5 : mSt, s1 = fst1 K (tSi T) 5 t ∧ s2 = tk K (nI 2) s1 ∧ s3 = tk K (nI 3) s2 ∧ s4 = sgS K s3 ∧ s5 = tk K (nI 3) s4 ∧ res = fin (tk K (nI 59) s5) ((tLo T, tSi T + 1, tHo T), upK (tSt T) (tSi T) (V s2.1) (sgN K s3 * V s4.1), tLw T, tNm T ++ [s1.1], nbl V (sgN K s3) (-3) (nI 3) s4 (nbl V (nI 1) (nI 1) (nI 9) s2 (nml N (tNm T) s1 (tLt T))))
def SXset (K V : Nat → Int32) (j : Nat) (lo hi : Int32) (t : Nat) (T : mTx) (res : TR) : Prop := ∃ s1 s2 : mSt, s1 = tk K (K t) (t, 0) ∧ s2 = tk K (nI 3) s1 ∧ res = fin (tk K (nI 59) s2) (T.1, up1 (tSt T) j (V s1.1), tLw T, tNm T, nbl V (nI 1) lo hi s1 (tLt T))
def SXlaw (K V : Nat → Int32) (k t : Nat) (T : mTx) (res : TR) : Prop := ∃ s2 : mSt, s2 = tk K (nI 61) (tk K (K t) (t, 0)) ∧ ((¬ s2.2 = 0 ∧ res = Sum.inr s2) ∨ (s2.2 = 0 ∧ ∃ r, LX K V 4 s2.1 r ∧ ((∃ s, r = Sum.inr s ∧ res = Sum.inr s) ∨ ∃ t' b e, r = Sum.inl (t', b, e) ∧ res = fin (tk K (nI 59) (t', 0)) (T.1, tSt T, upW (tLw T) k (b, e), tNm T, tLt T))))
def STX (K V : Nat → Int32) (N : Nat → Int64) (t : Nat) (T : mTx) (res : TR) : Prop :=
  (K t = nI 128 ∧ SXload K V N t T res) ∨ (K t = nI 129 ∧ SXsilk K V N t T res) ∨ (K t = nI 130 ∧ SXhook K V N t T res) ∨
  (∃ k, k < 4 ∧ K t = nI (131 + k) ∧ SXlaw K V k t T res) ∨ (K t = nI 135 ∧ SXset K V 0 (nI 1) (nI 99) t T res) ∨ (K t = nI 136 ∧ SXset K V 1 (nI 0) (nI 100) t T res) ∨ (K t = nI 137 ∧ SXset K V 2 (nI 0) (nI 9999) t T res) ∨
  ((∀ n, 128 ≤ n → n ≤ 137 → ¬ K t = nI n) ∧ res = Sum.inr (t, 1))
/-- a text, n statements at most -/
def TX (K V : Nat → Int32) (N : Nat → Int64) : Nat → Nat → mTx → TR → Prop
  | 0, t, T, res => K t = nI 0 ∧ res = Sum.inl (t, T)
  | n + 1, t, T, res => (K t = nI 0 ∧ res = Sum.inl (t, T)) ∨ (¬ K t = nI 0 ∧ ∃ r, STX K V N t T r ∧ ((∃ s, r = Sum.inr s ∧ res = Sum.inr s) ∨ ∃ t' T', r = Sum.inl (t', T') ∧ TX K V N n t' T' res))
/-! what holds of a text told so far -/
def inB (x : Int32) (lo hi : Int) : Prop := lo ≤ x.toInt ∧ x.toInt ≤ hi
def VLD (T : mTx) : Prop := (∀ i, i < tLo T → inB (tSt T (60 + i)) 0 19) ∧ (∀ k, k < tSi T → inB (tSt T (80 + k)) (-3) 3) ∧ ∀ h, h < tHo T → inB (tSt T (70 + h)) 0 19 ∧ inB (tSt T (40 + h)) 0 5 ∧ inB (tSt T (50 + h)) 1 9
def TOK (K : Nat → Int32) (t : Nat) (T : mTx) : Prop := tLo T ≤ 7 ∧ tSi T ≤ 5 ∧ tHo T ≤ 5 ∧ (tNm T).length = tLo T + tSi T + tHo T ∧ (∀ i, i ∈ tNm T → i < t ∧ K i = nI 2) ∧ ((tLt T).1 = 0 ∨ ((tLt T).1 = 3 ∨ (tLt T).1 = 5) ∧ (tLt T).2 < t) ∧ ((tLt T).1 = 0 → VLD T)
theorem tk_le {K : Nat → Int32} {x : Int32} {s : mSt} (h : (tk K x s).2 = 0) : s.2 = 0 ∧ K s.1 = x ∧ (tk K x s).1 = s.1 + 1 ∧ s.1 < 400 := by
  obtain ⟨a, b, c, d⟩ := tk_ok h
  exact ⟨a, b, by rw [d], c⟩
theorem fst1_le {K : Nat → Int32} {n m t : Nat} (h : (fst1 K n m t).2 = 0) : n < m ∧ (fst1 K n m t).1 = t + 1 := by
  unfold fst1 at h ⊢
  by_cases q : n < m
  · rw [if_pos q] at h ⊢
    exact ⟨q, (tk_le h).2.2.1⟩
  · rw [if_neg q] at h
    exact absurd (show 2 = 0 from h) (by decide)
theorem sgS_le {K : Nat → Int32} {s : mSt} (h : (sgS K s).2 = 0) : s.2 = 0 ∧ s.1 ≤ (sgS K s).1 := by
  refine ⟨sg_up h, ?_⟩
  unfold sgS at h ⊢
  by_cases c : s.2 = 0 ∧ K s.1 = nI 45
  · rw [if_pos c] at h ⊢
    have := (tk_le h).2.2.1
    omega
  · rw [if_neg c]
    exact Nat.le_refl _
/-- a late fault so far, at a token before t -/
def LTk (l : Nat × Nat) (t : Nat) : Prop := l.1 = 0 ∨ (l.1 = 3 ∨ l.1 = 5) ∧ l.2 < t
theorem LTk.up {l : Nat × Nat} {t t' : Nat} (h : LTk l t) (q : t ≤ t') : LTk l t' := by unfold LTk at h ⊢; omega
theorem LTk.nb {V : Nat → Int32} {sg lo hi : Int32} {s : mSt} {l : Nat × Nat} {t' : Nat} (h : LTk l t') (q : s.1 < t') : LTk (nbl V sg lo hi s l) t' := by
  unfold nbl
  split
  · exact h
  · unfold lt1
    split
    · exact Or.inr ⟨Or.inr rfl, q⟩
    · exact h
theorem LTk.nm {N : Nat → Int64} {nm : List Nat} {s : mSt} {l : Nat × Nat} {t' : Nat} (h : LTk l t') (q : s.1 < t') : LTk (nml N nm s l) t' := by
  unfold nml
  split
  · unfold lt1
    split
    · exact Or.inr ⟨Or.inl rfl, q⟩
    · exact h
  · exact h
theorem nbl_0 {V : Nat → Int32} {sg lo hi : Int32} {s : mSt} {l : Nat × Nat} (h : (nbl V sg lo hi s l).1 = 0) : l.1 = 0 ∧ lo ≤ sg * V s.1 ∧ sg * V s.1 ≤ hi := by
  unfold nbl at h
  by_cases c : lo ≤ sg * V s.1 ∧ sg * V s.1 ≤ hi
  · rw [if_pos c] at h
    exact ⟨h, c⟩
  · rw [if_neg c] at h
    unfold lt1 at h
    by_cases z : l.1 = 0
    · rw [if_pos z] at h
      exact absurd (show 5 = 0 from h) (by decide)
    · rw [if_neg z] at h
      exact absurd h z
theorem nml_0 {N : Nat → Int64} {nm : List Nat} {s : mSt} {l : Nat × Nat} (h : (nml N nm s l).1 = 0) : l.1 = 0 := by
  unfold nml lt1 at h
  by_cases c : twB N nm s.1 = true
  · rw [if_pos c] at h
    by_cases z : l.1 = 0
    · exact z
    · rw [if_neg z] at h
      exact h
  · rw [if_neg c] at h
    exact h
theorem inB_of {lo hi x : Int32} {a b : Int} (h1 : lo ≤ x) (h2 : x ≤ hi) (e1 : lo.toInt = a) (e2 : hi.toInt = b) : inB x a b := by
  rw [i_le] at h1 h2
  unfold inB
  omega
theorem up1_e {c : Nat → Int32} {b j : Nat} {y : Int32} (P : Int32 → Prop) (h1 : j = b → P y) (h2 : ¬ j = b → P (c j)) : P (up1 c b y j) := by
  unfold up1
  split
  · exact h1 ‹_›
  · exact h2 ‹_›
/-- a statement that is good goes on, and what holds is kept -/
theorem STX.ok {K V : Nat → Int32} {N : Nat → Int64} (hV : ∀ t, K t = nI 3 → nI 0 ≤ V t) {t t' : Nat} {T T' : mTx} (ht : t ≤ 400) (h : STX K V N t T (Sum.inl (t', T'))) (q : TOK K t T) : t < t' ∧ t' ≤ 400 ∧ TOK K t' T' := by
  obtain ⟨q1, q2, q3, q4, q5, q6, q7⟩ := q
  have fi : ∀ {s : mSt} {X : mTx}, Sum.inl (t', T') = fin s X → s.2 = 0 ∧ t' = s.1 ∧ T' = X := by
    intro s X e
    unfold fin at e
    split at e
    · cases e
      exact ⟨‹_›, rfl, rfl⟩
    · cases e
  have l6 : LTk (tLt T) t := q6
  rcases h with ⟨-, s1, s2, s3, s4, s5, e1, e2, e3, e4, e5, e6⟩ | ⟨-, s1, s2, s3, s4, s5, e1, e2, e3, e4, e5, e6⟩ | ⟨-, s1, s2, s3, s4, s5, e1, e2, e3, e4, e5, e6⟩ | ⟨k, hk, -, s2, e2, h⟩ | ⟨-, s1, s2, e1, e2, e6⟩ | ⟨-, s1, s2, e1, e2, e6⟩ | ⟨-, s1, s2, e1, e2, e6⟩ | ⟨-, e6⟩
  · obtain ⟨z6, rfl, rfl⟩ := fi e6
    obtain ⟨z5, -, g6, l400⟩ := tk_le z6
    obtain ⟨z4, -, g5, -⟩ := tk_le (e5 ▸ z5)
    obtain ⟨z3, -, g4, -⟩ := tk_le (e4 ▸ z4)
    obtain ⟨z2, -, g3, -⟩ := tk_le (e3 ▸ z3)
    obtain ⟨z1, k2, g2, -⟩ := tk_le (e2 ▸ z2)
    obtain ⟨n1, g1⟩ := fst1_le (e1 ▸ z1)
    rw [← e5] at g5
    rw [← e4] at g4
    rw [← e3] at g3
    rw [← e2] at g2
    rw [← e1] at g1
    refine ⟨by omega, by omega, by show tLo T + 1 ≤ 7; omega, q2, q3, ?_, ?_, ?_, ?_⟩
    · show (tNm T ++ [s1.1]).length = tLo T + 1 + tSi T + tHo T
      rw [List.length_append, q4]
      show tLo T + tSi T + tHo T + 1 = _
      omega
    · intro i hi
      rcases List.mem_append.mp hi with z | z
      · have := q5 i z
        exact ⟨by omega, this.2⟩
      · rw [List.mem_singleton.mp z]
        exact ⟨by omega, k2⟩
    · exact ((((l6.up (by omega)).nm (by omega)).nb (by omega)).nb (by omega)).nb (by omega)
    · intro z
      obtain ⟨z, c3, c4⟩ := nbl_0 z
      obtain ⟨z, b3, b4⟩ := nbl_0 z
      obtain ⟨z, a3, a4⟩ := nbl_0 z
      rw [one_m] at a3 a4
      obtain ⟨v1, v2, v3⟩ := q7 (nml_0 z)
      refine ⟨fun i hi => ?_, fun k hk => ?_, fun h hh => ?_⟩
      · have hi' : i < tLo T + 1 := hi
        show inB (upL (tSt T) (tLo T) _ _ _ (60 + i)) 0 19
        unfold upL
        refine up1_e (fun x => inB x 0 19) (fun w => by omega) fun _ => up1_e (fun x => inB x 0 19) (fun w => by omega) fun _ => up1_e (fun x => inB x 0 19) (fun _ => inB_of a3 a4 (by decide +kernel) (by decide +kernel)) fun w => v1 i (by omega)
      · have hk' : k < tSi T := hk
        show inB (upL (tSt T) (tLo T) _ _ _ (80 + k)) (-3) 3
        unfold upL
        rw [up1_o (by omega), up1_o (by omega), up1_o (by omega)]
        exact v2 k hk'
      · have hh' : h < tHo T := hh
        show inB (upL (tSt T) (tLo T) _ _ _ (70 + h)) 0 19 ∧ inB (upL (tSt T) (tLo T) _ _ _ (40 + h)) 0 5 ∧ inB (upL (tSt T) (tLo T) _ _ _ (50 + h)) 1 9
        unfold upL
        rw [up1_o (by omega), up1_o (by omega), up1_o (by omega), up1_o (by omega), up1_o (by omega), up1_o (by omega), up1_o (by omega), up1_o (by omega), up1_o (by omega)]
        exact v3 h hh'
  · obtain ⟨z6, rfl, rfl⟩ := fi e6
    obtain ⟨z5, -, g6, l400⟩ := tk_le z6
    obtain ⟨z4, -, g5, -⟩ := tk_le (e5 ▸ z5)
    obtain ⟨z3, g4⟩ := sgS_le (e4 ▸ z4)
    obtain ⟨z2, -, g3, -⟩ := tk_le (e3 ▸ z3)
    obtain ⟨z1, k2, g2, -⟩ := tk_le (e2 ▸ z2)
    obtain ⟨n1, g1⟩ := fst1_le (e1 ▸ z1)
    rw [← e5] at g5
    rw [← e4] at g4
    rw [← e3] at g3
    rw [← e2] at g2
    rw [← e1] at g1
    refine ⟨by omega, by omega, q1, by show tSi T + 1 ≤ 5; omega, q3, ?_, ?_, ?_, ?_⟩
    · show (tNm T ++ [s1.1]).length = tLo T + (tSi T + 1) + tHo T
      rw [List.length_append, q4]
      show tLo T + tSi T + tHo T + 1 = _
      omega
    · intro i hi
      rcases List.mem_append.mp hi with z | z
      · have := q5 i z
        exact ⟨by omega, this.2⟩
      · rw [List.mem_singleton.mp z]
        exact ⟨by omega, k2⟩
    · exact (((l6.up (by omega)).nm (by omega)).nb (by omega)).nb (by omega)
    · intro z
      obtain ⟨z, b3, b4⟩ := nbl_0 z
      obtain ⟨z, a3, a4⟩ := nbl_0 z
      obtain ⟨v1, v2, v3⟩ := q7 (nml_0 z)
      refine ⟨fun i hi => ?_, fun k hk => ?_, fun h hh => ?_⟩
      · have hi' : i < tLo T := hi
        show inB (upK (tSt T) (tSi T) _ _ (60 + i)) 0 19
        unfold upK
        rw [up1_o (by omega), up1_o (by omega)]
        exact v1 i hi'
      · have hk' : k < tSi T + 1 := hk
        show inB (upK (tSt T) (tSi T) _ _ (80 + k)) (-3) 3
        unfold upK
        refine up1_e (fun x => inB x (-3) 3) (fun _ => inB_of b3 b4 (by decide +kernel) (by decide +kernel)) fun w => up1_e (fun x => inB x (-3) 3) (fun w => by omega) fun _ => v2 k (by omega)
      · have hh' : h < tHo T := hh
        show inB (upK (tSt T) (tSi T) _ _ (70 + h)) 0 19 ∧ inB (upK (tSt T) (tSi T) _ _ (40 + h)) 0 5 ∧ inB (upK (tSt T) (tSi T) _ _ (50 + h)) 1 9
        unfold upK
        rw [up1_o (by omega), up1_o (by omega), up1_o (by omega), up1_o (by omega), up1_o (by omega), up1_o (by omega)]
        exact v3 h hh'
  · obtain ⟨z6, rfl, rfl⟩ := fi e6
    obtain ⟨z5, -, g6, l400⟩ := tk_le z6
    obtain ⟨z4, -, g5, -⟩ := tk_le (e5 ▸ z5)
    obtain ⟨z3, -, g4, -⟩ := tk_le (e4 ▸ z4)
    obtain ⟨z2, -, g3, -⟩ := tk_le (e3 ▸ z3)
    obtain ⟨z1, k2, g2, -⟩ := tk_le (e2 ▸ z2)
    obtain ⟨n1, g1⟩ := fst1_le (e1 ▸ z1)
    rw [← e5] at g5
    rw [← e4] at g4
    rw [← e3] at g3
    rw [← e2] at g2
    rw [← e1] at g1
    refine ⟨by omega, by omega, q1, q2, by show tHo T + 1 ≤ 5; omega, ?_, ?_, ?_, ?_⟩
    · show (tNm T ++ [s1.1]).length = tLo T + tSi T + (tHo T + 1)
      rw [List.length_append, q4]
      show tLo T + tSi T + tHo T + 1 = _
      omega
    · intro i hi
      rcases List.mem_append.mp hi with z | z
      · have := q5 i z
        exact ⟨by omega, this.2⟩
      · rw [List.mem_singleton.mp z]
        exact ⟨by omega, k2⟩
    · exact ((((l6.up (by omega)).nm (by omega)).nb (by omega)).nb (by omega)).nb (by omega)
    · intro z
      obtain ⟨z, c3, c4⟩ := nbl_0 z
      obtain ⟨z, b3, b4⟩ := nbl_0 z
      obtain ⟨z, a3, a4⟩ := nbl_0 z
      rw [one_m] at a3 a4 b3 b4 c3 c4
      obtain ⟨v1, v2, v3⟩ := q7 (nml_0 z)
      refine ⟨fun i hi => ?_, fun k hk => ?_, fun h hh => ?_⟩
      · have hi' : i < tLo T := hi
        show inB (upH (tSt T) (tHo T) _ _ _ (60 + i)) 0 19
        unfold upH
        rw [up1_o (by omega), up1_o (by omega), up1_o (by omega)]
        exact v1 i hi'
      · have hk' : k < tSi T := hk
        show inB (upH (tSt T) (tHo T) _ _ _ (80 + k)) (-3) 3
        unfold upH
        rw [up1_o (by omega), up1_o (by omega), up1_o (by omega)]
        exact v2 k hk'
      · have hh' : h < tHo T + 1 := hh
        show inB (upH (tSt T) (tHo T) _ _ _ (70 + h)) 0 19 ∧ inB (upH (tSt T) (tHo T) _ _ _ (40 + h)) 0 5 ∧ inB (upH (tSt T) (tHo T) _ _ _ (50 + h)) 1 9
        unfold upH
        refine ⟨up1_e (fun x => inB x 0 19) (fun w => by omega) fun _ => up1_e (fun x => inB x 0 19) (fun w => by omega) fun _ => up1_e (fun x => inB x 0 19) (fun _ => inB_of a3 a4 (by decide +kernel) (by decide +kernel)) fun w => (v3 h (by omega)).1, up1_e (fun x => inB x 0 5) (fun w => by omega) fun _ => up1_e (fun x => inB x 0 5) (fun _ => inB_of b3 b4 (by decide +kernel) (by decide +kernel)) fun w => up1_e (fun x => inB x 0 5) (fun w => by omega) fun _ => (v3 h (by omega)).2.1, up1_e (fun x => inB x 1 9) (fun _ => inB_of c3 c4 (by decide +kernel) (by decide +kernel)) fun w => up1_e (fun x => inB x 1 9) (fun w => by omega) fun _ => up1_e (fun x => inB x 1 9) (fun w => by omega) fun _ => (v3 h (by omega)).2.2⟩
  · rcases h with ⟨-, e6⟩ | ⟨z2, r, hr, ⟨s, -, e6⟩ | ⟨t2, b, e, e5, e6⟩⟩
    · cases e6
    · cases e6
    · obtain ⟨z6, rfl, rfl⟩ := fi e6
      obtain ⟨-, -, g6, l400⟩ := tk_le z6
      obtain ⟨z1, -, g2, l2⟩ := tk_le (e2 ▸ z2)
      obtain ⟨-, -, g1, -⟩ := tk_le z1
      rw [← e2] at g2
      rw [e5] at hr
      have key : ∀ n t0 b e, t0 ≤ 400 → LX K V n t0 (Sum.inl (t2, b, e)) → t0 ≤ t2 := by
        intro n
        induction n with
        | zero =>
          intro t0 b e h0 h
          rcases h with ⟨-, w⟩ | ⟨-, l, s', x, w⟩
          · cases w
          · by_cases c : s'.2 = 0
            · rw [if_pos c] at w
              cases w
              have := LSX.ok hV h0 x c
              omega
            · rw [if_neg c] at w
              cases w
        | succ n ih =>
          intro t0 b e h0 h
          rcases h with ⟨-, a1, b1, c1, s7, br, ⟨-, w⟩ | ⟨z7, r', hr', w⟩⟩ | ⟨-, l, s', x, w⟩
          · cases w
          · have o := br.ok hV h0 z7
            match r', hr', w with
            | Sum.inl (t3, b3, e3), hr', w =>
              cases w
              have := ih s7.1 _ _ o.2.1 hr'
              omega
            | Sum.inr s, hr', w => cases w
          · by_cases c : s'.2 = 0
            · rw [if_pos c] at w
              cases w
              have := LSX.ok hV h0 x c
              omega
            · rw [if_neg c] at w
              cases w
      have s400 : s2.1 ≤ 400 := by omega
      have := key 4 s2.1 b e s400 hr
      have g6' : (tk K (nI 59) (t2, 0)).1 = t2 + 1 := g6
      have l400' : t2 < 400 := l400
      have g1' : (tk K (K t) (t, 0)).1 = t + 1 := g1
      refine ⟨by omega, by omega, q1, q2, q3, q4, fun i hi => ⟨by have := (q5 i hi).1; omega, (q5 i hi).2⟩, l6.up (by omega), q7⟩
  all_goals first
    | (obtain ⟨z6, rfl, rfl⟩ := fi e6
       obtain ⟨z5, -, g6, l400⟩ := tk_le z6
       obtain ⟨z1, -, g2, -⟩ := tk_le (e2 ▸ z5)
       obtain ⟨-, -, g1, -⟩ := tk_le (e1 ▸ z1)
       rw [← e2] at g2
       rw [← e1] at g1
       have g1' : s1.1 = t + 1 := g1
       refine ⟨by omega, by omega, q1, q2, q3, q4, fun i hi => ⟨by have := (q5 i hi).1; omega, (q5 i hi).2⟩, (l6.up (by omega)).nb (by omega), fun z => ?_⟩
       obtain ⟨v1, v2, v3⟩ := q7 (nbl_0 z).1
       refine ⟨fun i hi => ?_, fun k hk => ?_, fun h hh => ?_⟩
       · show inB (up1 (tSt T) _ _ (60 + i)) 0 19
         rw [up1_o (by omega)]
         exact v1 i hi
       · show inB (up1 (tSt T) _ _ (80 + k)) (-3) 3
         rw [up1_o (by omega)]
         exact v2 k hk
       · show inB (up1 (tSt T) _ _ (70 + h)) 0 19 ∧ inB (up1 (tSt T) _ _ (40 + h)) 0 5 ∧ inB (up1 (tSt T) _ _ (50 + h)) 1 9
         rw [up1_o (by omega), up1_o (by omega), up1_o (by omega)]
         exact v3 h hh)
    | cases e6
