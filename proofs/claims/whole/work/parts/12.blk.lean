/-! a stretch of code at once -/
def blk (sc : Option (Nat × (Nat → Int32))) (cal : zC) (kk : zK) : List zE → zLs → List Value → zM → Option zR
  | [] => fun _ _ _ => none
  | e :: r => fun ls st M => stp sc cal e ls st M (fun pc' ls' st' M' => match r with
      | [] => kk pc' ls' st' M'
      | e2 :: _ => match Nat.beq pc' e2.1 with
        | true => blk sc cal kk r ls' st' M'
        | false => kk pc' ls' st' M')
def blkOk (cd : List zE) : List zE → Bool
  | [] => true
  | e :: r => decide (zent cd e.1 = some e) && (match r with
      | [] => true
      | e2 :: _ => decide (e2.2.2.2.2 = none) && blkOk cd r)
theorem blk_ok (cod : Nat → Nat × List zE) (sc : Option (Nat × (Nat → Int32))) (d : Nat) (cd : List zE) : ∀ (r : List zE) (e : zE) (_ : blkOk cd (e :: r) = true) (ls : zLs) (st : List Value) (M : zM),
    evk cod sc d cd e.1 ls st M = blk sc (evM cod d) (fun pc' ls' st' M' => evk cod sc d cd pc' (zms cd pc' ls') st' M') (e :: r) ls st M
  | [], e, h, ls, st, M => by
    rw [evk_eq]
    simp only [blkOk, Bool.and_true, decide_eq_true_eq] at h
    rw [h]
    rfl
  | e2 :: r, e, h, ls, st, M => by
    rw [evk_eq]
    unfold blkOk at h
    simp only [Bool.and_eq_true, decide_eq_true_eq] at h
    obtain ⟨h1, h2, h3⟩ := h
    rw [h1]
    unfold blk
    dsimp only
    congr 1
    funext pc' ls' st' M'
    cases hb : Nat.beq pc' e2.1 with
    | false => rfl
    | true =>
      have hpc : pc' = e2.1 := Nat.eq_of_beq_eq_true hb
      subst hpc
      have hz : zent cd e2.1 = some e2 := by
        unfold blkOk at h3
        simp only [Bool.and_eq_true, decide_eq_true_eq] at h3
        exact h3.1
      have hm : zms cd e2.1 ls' = ls' := by
        unfold zms
        rw [hz]
        dsimp only
        rw [h2]
        rfl
      rw [hm]
      exact blk_ok cod sc d cd r e2 h3 ls' st' M'
