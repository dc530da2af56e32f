/-! THE PURE MACHINE SAYS THE TRUTH, the whole of it -/
def Bd (n sl : Nat) (o : Option zR) : Prop := ∀ r, o = some r → n ≤ r.2.1.1 ∧ sl ≤ r.2.1.2.1
theorem Bd_none {n sl : Nat} : Bd n sl none := fun _ h => by cases h
theorem Bd_ite {n sl : Nat} {p : Prop} {_ : Decidable p} {a b : Option zR} (h1 : Bd n sl a) (h2 : Bd n sl b) : Bd n sl (if p then a else b) := by
  split
  · exact h1
  · exact h2
theorem Bd_lI {n sl : Nat} {ls : zLs} {i : Nat} {f : Int32 → Option zR} (h : ∀ x, Bd n sl (f x)) : Bd n sl (lI ls i f) := fun r e => by
  obtain ⟨x, _, e⟩ := lI_some e
  exact h x r e
theorem Bd_lL {n sl : Nat} {ls : zLs} {i : Nat} {f : Int64 → Option zR} (h : ∀ x, Bd n sl (f x)) : Bd n sl (lL ls i f) := fun r e => by
  obtain ⟨x, _, e⟩ := lL_some e
  exact h x r e
theorem Bd_lA {n sl : Nat} {ls : zLs} {i : Nat} {f : Nat → Option zR} (h : ∀ x, Bd n sl (f x)) : Bd n sl (lA ls i f) := fun r e => by
  obtain ⟨x, _, e⟩ := lA_some e
  exact h x r e
theorem Bd_pI {n sl : Nat} {st : List Value} {f : Int32 → List Value → Option zR} (h : ∀ x st, Bd n sl (f x st)) : Bd n sl (pI st f) := fun r e => by
  obtain ⟨x, st, _, e⟩ := pI_some e
  exact h x st r e
theorem Bd_pL {n sl : Nat} {st : List Value} {f : Int64 → List Value → Option zR} (h : ∀ x st, Bd n sl (f x st)) : Bd n sl (pL st f) := fun r e => by
  obtain ⟨x, st, _, e⟩ := pL_some e
  exact h x st r e
theorem Bd_pA {n sl : Nat} {st : List Value} {f : Nat → List Value → Option zR} (h : ∀ x st, Bd n sl (f x st)) : Bd n sl (pA st f) := fun r e => by
  obtain ⟨x, st, _, e⟩ := pA_some e
  exact h x st r e
theorem Bd_p1 {n sl : Nat} {st : List Value} {f : Value → List Value → Option zR} (h : ∀ x st, Bd n sl (f x st)) : Bd n sl (p1 st f) := fun r e => by
  obtain ⟨x, st, _, _, e⟩ := p1_some (fv := .null) (ad := fun a => a) e
  exact h x st r e
theorem Bd_pN {n sl : Nat} {st : List Value} {o : Option zR} (h : Bd n sl o) : Bd n sl (pN st o) := fun r e => h r (pN_some e).2
theorem Bd_pS {n sl : Nat} {sc : Option (Nat × (Nat → Int32))} {f : Nat → (Nat → Int32) → Option zR} (h : ∀ x st, Bd n sl (f x st)) : Bd n sl (pS sc f) := fun r e => by
  obtain ⟨x, st, _, e⟩ := pS_some e
  exact h x st r e
theorem Bd_pop {n sl m : Nat} {st : List Value} {f : List Value → List Value → Option zR} (h : ∀ x st, Bd n sl (f x st)) : Bd n sl (pop m st f) := fun r e => by
  obtain ⟨x, st, _, _, _, e⟩ := pop_some e
  exact h x st r e
theorem Bd_zsw {n sl : Nat} {x : Int32} {f : Nat → Option zR} {d : Nat} (h : ∀ t, Bd n sl (f t)) : ∀ (ts : List Nat) (lo : Int), Bd n sl (zsw x f d lo ts)
  | [], _ => h d
  | _ :: ts, lo => Bd_ite (h _) (Bd_zsw h ts (lo + 1))
theorem Bd_cB {n sl ret : Nat} {o : Option zR} {f : List Value → zM → Option zR} (h1 : Bd n sl o) (h : ∀ v M, Bd M.1.1 M.1.2.1 (f v M)) : Bd n sl (cBack ret o f) := fun r e => by
  obtain ⟨v, M1, e1, e2⟩ := cBack_some e
  have a := h1 _ e1
  have b := h _ M1 r e2
  exact ⟨Nat.le_trans a.1 b.1, Nat.le_trans a.2 b.2⟩
theorem Bd_up {n n' sl sl' : Nat} {o : Option zR} (h1 : n ≤ n') (h2 : sl ≤ sl') (h : Bd n' sl' o) : Bd n sl o := fun r e => ⟨Nat.le_trans h1 (h r e).1, Nat.le_trans h2 (h r e).2⟩
theorem stp_Bd {sc : Option (Nat × (Nat → Int32))} {cal : zC} {e : zE} {ls : zLs} {st : List Value} {M : zM} {k : zK} (hc : ∀ z as M, Bd M.1.1 M.1.2.1 (cal z as M)) (hk : ∀ pc ls st M, Bd M.1.1 M.1.2.1 (k pc ls st M)) : Bd M.1.1 M.1.2.1 (stp sc cal e ls st M k) := by
  obtain ⟨pc, ins, nxt, aux, ld⟩ := e
  cases ins
  case ifCond c o => cases c <;> exact Bd_pI fun _ _ => Bd_ite (hk _ _ _ _) (hk _ _ _ _)
  case if_icmp c o => cases c <;> exact Bd_pI fun _ _ => Bd_pI fun _ _ => Bd_ite (hk _ _ _ _) (hk _ _ _ _)
  case tableswitch d lo hi os => exact Bd_pI fun _ _ => Bd_zsw (fun _ => hk _ _ _ _) _ _
  case dup => exact Bd_p1 (f := fun v st => k nxt ls (v :: v :: st) M) fun _ _ => hk _ _ _ _
  case dup2 => exact Bd_p1 (f := fun v st => p1 st fun w st => k nxt ls (v :: w :: v :: w :: st) M) fun _ _ => Bd_p1 fun _ _ => hk _ _ _ _
  case pop => exact Bd_p1 (f := fun _ st => k nxt ls st M) fun _ _ => hk _ _ _ _
  case getfield i => exact Bd_ite (Bd_ite (Bd_pA fun _ _ => Bd_ite (hk _ _ _ _) Bd_none) (Bd_pA fun _ _ => Bd_ite (hk _ _ _ _) Bd_none)) (Bd_ite (Bd_pA fun _ _ => Bd_ite (hk _ _ _ _) Bd_none) (Bd_ite (Bd_pA fun _ _ => Bd_ite (hk _ _ _ _) Bd_none) (Bd_pA fun _ _ => Bd_ite (hk _ _ _ _) Bd_none)))
  case putfield i => exact Bd_ite (Bd_pI fun _ _ => Bd_pA fun _ _ => Bd_ite (hk _ _ _ (sI M _ _ _)) Bd_none) (Bd_ite (Bd_pI fun _ _ => Bd_pA fun _ _ => Bd_ite (hk _ _ _ (sI M _ _ _)) Bd_none) (Bd_ite (Bd_pL fun _ _ => Bd_pA fun _ _ => Bd_ite (hk _ _ _ (sL M _ _ _)) Bd_none) (Bd_pA fun _ _ => Bd_pA fun _ _ => Bd_ite (hk _ _ _ (sR M _ _ _)) Bd_none)))
  case iaload => exact Bd_ite (Bd_pS fun _ _ => Bd_pI fun _ _ => Bd_pA fun _ _ => Bd_ite (hk _ _ _ _) Bd_none) (Bd_pI fun _ _ => Bd_pA fun _ _ => Bd_ite (hk _ _ _ _) Bd_none)
  case laload => exact Bd_pI fun _ _ => Bd_pA fun _ _ => Bd_ite (hk _ _ _ _) Bd_none
  case aaload => exact Bd_pI fun _ _ => Bd_pA fun _ _ => Bd_ite (hk _ _ _ _) Bd_none
  case baload => exact Bd_ite (Bd_pI fun _ _ => Bd_pA fun _ _ => Bd_ite (hk _ _ _ _) Bd_none) (Bd_pI fun _ _ => Bd_pA fun _ _ => Bd_ite (hk _ _ _ _) Bd_none)
  case iastore => exact Bd_pI fun _ _ => Bd_pI fun _ _ => Bd_pA fun _ _ => Bd_ite (hk _ _ _ (sI M _ _ _)) Bd_none
  case lastore => exact Bd_pL fun _ _ => Bd_pI fun _ _ => Bd_pA fun _ _ => Bd_ite (hk _ _ _ (sL M _ _ _)) Bd_none
  case aastore => exact Bd_pA fun _ _ => Bd_pI fun _ _ => Bd_pA fun _ _ => Bd_ite (hk _ _ _ (sR M _ _ _)) Bd_none
  case bastore => exact Bd_ite (Bd_pI fun _ _ => Bd_pI fun _ _ => Bd_pA fun _ _ => Bd_ite (hk _ _ _ (sI M _ _ _)) Bd_none) (Bd_pI fun _ _ => Bd_pI fun _ _ => Bd_pA fun _ _ => Bd_ite (hk _ _ _ (sI M _ _ _)) Bd_none)
  case arraylength => exact Bd_ite (Bd_pS fun _ _ => Bd_pA fun _ _ => Bd_ite (hk _ _ _ _) Bd_none) (Bd_ite (Bd_pA fun _ _ => Bd_ite (hk _ _ _ _) Bd_none) (Bd_pA fun _ _ => Bd_ite (hk _ _ _ _) Bd_none))
  case new i => exact Bd_ite (Bd_up (Nat.le_succ _) (Nat.le_add_right _ _) (hk _ _ _ (alc M _ _))) Bd_none
  case newarray t => exact Bd_pI fun _ _ => Bd_ite (Bd_up (Nat.le_succ _) (Nat.le_add_right _ _) (hk _ _ _ (alc M _ _))) Bd_none
  case anewarray t => exact Bd_pI fun _ _ => Bd_ite (Bd_up (Nat.le_succ _) (Nat.le_add_right _ _) (hk _ _ _ (alc M _ _))) Bd_none
  case multianewarray i d => exact Bd_pI fun _ _ => Bd_pI fun _ _ => Bd_ite (Bd_up (by show M.1.1 ≤ M.1.1 + 1 + _; omega) (by show M.1.2.1 ≤ M.1.2.1 + _ + _; omega) (hk _ _ _ (alg M _ _))) Bd_none
  case invokestatic i => exact Bd_ite (Bd_pI fun _ _ => Bd_pI fun _ _ => Bd_pA fun _ _ => Bd_pI fun _ _ => Bd_pA fun _ _ => Bd_ite (Bd_pN (hk _ _ _ (cI M _ _ _ _ _))) Bd_none) (Bd_pop fun _ _ => Bd_cB (hc _ _ _) fun _ _ => Bd_ite (hk _ _ _ _) Bd_none)
  case invokevirtual i => exact Bd_pop (f := fun as st => pA st fun r st => if gK M r = aux.getD 3 0 then cBack (aux.getD 2 0) (cal (aux.getD 0 0) (.ref r :: as) M) fun v M1 => if M1.1.1 = M.1.1 then k nxt ls (v ++ st) M1 else none else none) fun _ _ => Bd_pA fun _ _ => Bd_ite (Bd_cB (hc _ _ _) fun _ _ => Bd_ite (hk _ _ _ _) Bd_none) Bd_none
  case invokespecial i => exact Bd_ite (Bd_pA fun _ _ => Bd_ite (Bd_pN (hk _ _ _ _)) Bd_none) (Bd_pop fun _ _ => Bd_pA fun _ _ => Bd_ite (Bd_cB (hc _ _ _) fun _ _ => hk _ _ _ _) Bd_none)
  case ireturn => exact Bd_pI fun _ _ => Bd_pN (Bd_ite (fun r e => by cases e; exact ⟨Nat.le_refl _, Nat.le_refl _⟩) (Bd_ite (Bd_ite (fun r e => by cases e; exact ⟨Nat.le_refl _, Nat.le_refl _⟩) Bd_none) (Bd_ite (Bd_ite (fun r e => by cases e; exact ⟨Nat.le_refl _, Nat.le_refl _⟩) Bd_none) (Bd_ite (fun r e => by cases e; exact ⟨Nat.le_refl _, Nat.le_refl _⟩) Bd_none))))
  case lreturn => exact Bd_pL fun _ _ => Bd_pN (fun r e => by cases e; exact ⟨Nat.le_refl _, Nat.le_refl _⟩)
  case return_ => exact Bd_pN (fun r e => by cases e; exact ⟨Nat.le_refl _, Nat.le_refl _⟩)
  all_goals first
    | exact Bd_none
    | exact hk _ _ _ _
    | exact Bd_lI fun _ => hk _ _ _ _
    | exact Bd_lL fun _ => hk _ _ _ _
    | exact Bd_lA fun _ => hk _ _ _ _
    | exact Bd_pI fun _ _ => hk _ _ _ _
    | exact Bd_pL fun _ _ => hk _ _ _ _
    | exact Bd_pA fun _ _ => hk _ _ _ _
    | exact Bd_pI fun _ _ => Bd_pI fun _ _ => hk _ _ _ _
    | exact Bd_pL fun _ _ => Bd_pL fun _ _ => hk _ _ _ _
    | exact Bd_pI fun _ _ => Bd_pI fun _ _ => Bd_ite Bd_none (hk _ _ _ _)
    | exact Bd_ite (hk _ _ _ _) (hk _ _ _ _)
theorem exe_Bd {sc : Option (Nat × (Nat → Int32))} {cal : zC} {cd : List zE} (hc : ∀ z as M, Bd M.1.1 M.1.2.1 (cal z as M)) : ∀ n pc ls st M, Bd M.1.1 M.1.2.1 (exe sc cal cd n pc ls st M)
  | 0, _, _, _, _ => Bd_none
  | n + 1, pc, ls, st, M => by
    unfold exe
    split
    · exact Bd_none
    · exact stp_Bd hc fun pc ls st M => exe_Bd hc n pc _ st M
theorem mth_Bd (cod : Nat → Nat × List zE) (n : Nat) : ∀ d z as M, Bd M.1.1 M.1.2.1 (mth cod n d z as M)
  | 0, _, _, _ => Bd_none
  | d + 1, z, as, M => Bd_ite (exe_Bd (mth_Bd cod n d) n 0 _ [] M) Bd_none
theorem zent_mem {cd : List zE} {pc : Nat} {e : zE} (h : zent cd pc = some e) : e ∈ cd ∧ e.1 = pc := by
  induction cd with
  | nil => cases h
  | cons a r ih =>
    unfold zent at h
    split at h
    · rename_i hb
      cases h
      exact ⟨List.mem_cons_self, Nat.eq_of_beq_eq_true hb⟩
    · exact ⟨List.mem_cons_of_mem _ (ih h).1, (ih h).2⟩
