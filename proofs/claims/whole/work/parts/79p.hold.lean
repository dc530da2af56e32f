/-! what lives through what -/
theorem XC.cg {I J : mI} {tp : Nat} {fp : Int32} {B : Nat → Int32} {A : Nat → Nat → Prop} (h : XC I tp fp B) (f : Fi A I J) (q : ∀ j, ¬ A 7 j ∧ ¬ A 8 j) : XC J tp fp B := ⟨h.1, (f 7 1 (q 1).1).trans h.2.1, (f 7 2 (q 2).1).trans h.2.2.1, fun j hj => (f 8 j (q j).2).trans (h.2.2.2 j hj)⟩
theorem XM.cg {I J : mI} {tp : Nat} {fp : Int32} {B : Nat → Int32} {A : Nat → Nat → Prop} (h : XM I tp fp B) (f : Fi A I J) (q : ¬ A 384 2 ∧ ¬ A 384 17 ∧ ∀ j, ¬ A 385 j) : XM J tp fp B := ⟨h.1, (f _ _ q.1).trans h.2.1, (f _ _ q.2.1).trans h.2.2.1, fun j hj => (f 385 j (q.2.2 j)).trans (h.2.2.2 j hj)⟩
theorem jk_7 (j : Nat) : ¬ jk 7 j ∧ ¬ jk 8 j := by unfold jk; omega
theorem chA_7 (j : Nat) : ¬ chA 7 j ∧ ¬ chA 8 j := by unfold chA jk paA; omega
theorem mj_tp : ¬ mj 384 2 ∧ ¬ mj 384 17 ∧ ∀ j, ¬ mj 385 j := ⟨by unfold mj; omega, by unfold mj; omega, fun j => by unfold mj; omega⟩
theorem chM_tp : ¬ chM 384 2 ∧ ¬ chM 384 17 ∧ ∀ j, ¬ chM 385 j := ⟨by unfold chM mj; omega, by unfold chM mj; omega, fun j => by unfold chM mj; omega⟩
theorem tmA_tp : ¬ tmA 384 2 ∧ ¬ tmA 384 17 ∧ ∀ j, ¬ tmA 385 j := ⟨by unfold tmA; omega, by unfold tmA; omega, fun j => by unfold tmA; omega⟩
/-- the class's state lives through what the tape does -/
theorem ZC.tp {S : mS} {I J : mI} {P : mP} {r : mW} {H : Nat → mW} {dp : Nat} {Q : Nat → mW} {hd : Nat → Bool} {T : Nat → Nat → Int32} {nt : Nat} (h : ZC S I P r H dp Q hd T nt) (f : Fi (fun a _ => a < 9) I J) : ZC S J P r H dp Q hd T nt := by
  obtain ⟨h1, h2, ⟨c1, c2, c3, c4, c5, c6⟩, h4, h5, h6, h7⟩ := h
  have e : ∀ a, 9 ≤ a → J a = I a := fun a q => f.row a fun j => by omega
  refine ⟨h1, h2, ⟨c1.congI fun x j p q => f x j (by omega), c2.fi (e 17 (by omega)) (e 18 (by omega)) (e 19 (by omega)), ?_, ?_, ?_, c6.cg fun x j p q => f x j (by omega)⟩, h4.cg (fun x j q _ => f x j (by omega)) (f _ _ (by omega)) (f _ _ (by omega)), h5.cg (fun x j q _ => f x j (by omega)) (f _ _ (by omega)), h6, h7.cg (fun j => f _ _ (by omega)) (fun j => f _ _ (by omega))⟩
  · rw [e 9 (by omega)]; exact c3
  · rw [e 9 (by omega)]; exact c4
  · rw [e 9 (by omega)]; exact c5
theorem ZM.tp {S : mS} {I J : mI} {P : mP} {v : Nat} {r : mW} {H : Nat → mW} {dp : Nat} {Q : Nat → mW} {hd : Nat → Bool} {T : Nat → Nat → Int32} {nt : Nat} (h : ZM S I P v r H dp Q hd T nt) (f : Fi (fun a j => a = 385 ∨ a = 384 ∧ j = 2) I J) : ZM S J P v r H dp Q hd T nt := by
  obtain ⟨h1, h2, h3, h4, h5, h6, h7, h8, h9⟩ := h
  exact ⟨h1, h2, h3.cg (f _ _ (by omega)) (fun a p q => f.row a fun j => by omega), fun j q => (f _ _ (by omega)).trans (h4 j q), h5.cg (fun j => f _ _ (by omega)) (f _ _ (by omega)), h6.cg (fun j => f _ _ (by omega)) (fun j => f _ _ (by omega)), h7, h8.cg (f _ _ (by omega)) (fun x j p q => f _ _ (by omega)), h9⟩
/-- class and reference live side by side: what touches the one lets the other be -/
theorem ZC.lo {S : mS} {I J : mI} {P : mP} {r : mW} {H : Nat → mW} {dp : Nat} {Q : Nat → mW} {hd : Nat → Bool} {T : Nat → Nat → Int32} {nt : Nat} (h : ZC S I P r H dp Q hd T nt) (f : Fi (fun a _ => 384 ≤ a) I J) : ZC S J P r H dp Q hd T nt := by
  obtain ⟨h1, h2, ⟨c1, c2, c3, c4, c5, c6⟩, h4, h5, h6, h7⟩ := h
  have e : ∀ a, a < 384 → J a = I a := fun a q => f.row a fun j => by omega
  refine ⟨h1, h2, ⟨c1.congI fun x j p q => f x j (by omega), c2.fi (e 17 (by omega)) (e 18 (by omega)) (e 19 (by omega)), ?_, ?_, ?_, c6.cg fun x j p q => f x j (by omega)⟩, h4.cg (fun x j q _ => f x j (by omega)) (f _ _ (by omega)) (f _ _ (by omega)), h5.cg (fun x j q _ => f x j (by omega)) (f _ _ (by omega)), h6, h7.cg (fun j => f _ _ (by omega)) (fun j => f _ _ (by omega))⟩
  · rw [e 9 (by omega)]; exact c3
  · rw [e 9 (by omega)]; exact c4
  · rw [e 9 (by omega)]; exact c5
theorem ZM.hi {S : mS} {I J : mI} {P : mP} {v : Nat} {r : mW} {H : Nat → mW} {dp : Nat} {Q : Nat → mW} {hd : Nat → Bool} {T : Nat → Nat → Int32} {nt : Nat} (h : ZM S I P v r H dp Q hd T nt) (f : Fi (fun a _ => a < 384) I J) : ZM S J P v r H dp Q hd T nt := by
  obtain ⟨h1, h2, h3, h4, h5, h6, h7, h8, h9⟩ := h
  exact ⟨h1, h2, h3.cg (f _ _ (by omega)) (fun a p q => f.row a fun j => by omega), fun j q => (f _ _ (by omega)).trans (h4 j q), h5.cg (fun j => f _ _ (by omega)) (f _ _ (by omega)), h6.cg (fun j => f _ _ (by omega)) (fun j => f _ _ (by omega)), h7, h8.cg (f _ _ (by omega)) (fun x j p q => f _ _ (by omega)), h9⟩
