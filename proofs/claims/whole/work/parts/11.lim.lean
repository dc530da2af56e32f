/-! the limit over the fuel: 'ev' has an equation an instruction -/
def cLe (c c' : zC) : Prop := ∀ z as M r, c z as M = some r → c' z as M = some r
def kLe (k k' : zK) : Prop := ∀ pc ls st M r, k pc ls st M = some r → k' pc ls st M = some r
noncomputable def lim (f : Nat → Option zR) : Option zR := @dite _ (∃ r, ∃ n, f n = some r) (Classical.propDecidable _) (fun h => some (Classical.choose h)) (fun _ => none)
theorem ch_le {f : Nat → Option zR} (hf : ∀ n r, f n = some r → f (n + 1) = some r) {r : zR} : ∀ {n m : Nat}, n ≤ m → f n = some r → f m = some r := by
  intro n m h e
  induction h with
  | refl => exact e
  | step _ ih => exact hf _ _ ih
theorem lim_of {f : Nat → Option zR} (hf : ∀ n r, f n = some r → f (n + 1) = some r) {r : zR} {n : Nat} (h : f n = some r) : lim f = some r := by
  have hx : ∃ r, ∃ n, f n = some r := ⟨r, n, h⟩
  have e : lim f = some (Classical.choose hx) := by unfold lim; exact dif_pos hx
  rw [e]
  obtain ⟨m, hm⟩ := Classical.choose_spec hx
  have h1 := ch_le hf (Nat.le_max_left n m) h
  have h2 := ch_le hf (Nat.le_max_right n m) hm
  exact h2.symm.trans h1
theorem lim_ex {f : Nat → Option zR} {r : zR} (h : lim f = some r) : ∃ n, f n = some r := by
  unfold lim at h
  split at h
  · rename_i hx
    cases h
    exact Classical.choose_spec hx
  · cases h
noncomputable def limC (c : Nat → zC) : zC := fun z as M => lim (fun n => c n z as M)
noncomputable def limK (k : Nat → zK) : zK := fun pc ls st M => lim (fun n => k n pc ls st M)
def Ct (F : zC → zK → Option zR) : Prop :=
  (∀ c c' k k' r, cLe c c' → kLe k k' → F c k = some r → F c' k' = some r) ∧
  (∀ (c : Nat → zC) (k : Nat → zK), (∀ n, cLe (c n) (c (n + 1))) → (∀ n, kLe (k n) (k (n + 1))) → ∀ r, F (limC c) (limK k) = some r → ∃ n, F (c n) (k n) = some r)
theorem Ct_k (pc : Nat) (ls : zLs) (st : List Value) (M : zM) : Ct (fun _ k => k pc ls st M) := ⟨fun _ _ _ _ r _ hk h => hk _ _ _ _ r h, fun _ _ _ _ _ h => lim_ex h⟩
theorem Ct_call (z : Nat) (as : List Value) (M : zM) : Ct (fun c _ => c z as M) := ⟨fun _ _ _ _ r hc _ h => hc _ _ _ r h, fun _ _ _ _ _ h => lim_ex h⟩
theorem Ct_o (o : Option zR) : Ct (fun _ _ => o) := ⟨fun _ _ _ _ _ _ _ h => h, fun _ _ _ _ _ h => ⟨0, h⟩⟩
theorem Ct_ite {p : Prop} {_ : Decidable p} {F G : zC → zK → Option zR} (hF : Ct F) (hG : Ct G) : Ct (fun c k => if p then F c k else G c k) := by
  by_cases h : p
  · simp only [h, if_true]; exact hF
  · simp only [h, if_false]; exact hG
theorem Ct_lI {ls : zLs} {i : Nat} {F : Int32 → zC → zK → Option zR} (h : ∀ x, Ct (F x)) : Ct (fun c k => lI ls i (fun x => F x c k)) := by
  unfold lI
  split
  · exact h _
  · exact Ct_o _
theorem Ct_lL {ls : zLs} {i : Nat} {F : Int64 → zC → zK → Option zR} (h : ∀ x, Ct (F x)) : Ct (fun c k => lL ls i (fun x => F x c k)) := by
  unfold lL
  split
  · exact h _
  · exact Ct_o _
theorem Ct_lA {ls : zLs} {i : Nat} {F : Nat → zC → zK → Option zR} (h : ∀ x, Ct (F x)) : Ct (fun c k => lA ls i (fun x => F x c k)) := by
  unfold lA
  split
  · exact h _
  · exact Ct_o _
theorem Ct_pI {st : List Value} {F : Int32 → List Value → zC → zK → Option zR} (h : ∀ x st, Ct (F x st)) : Ct (fun c k => pI st (fun x st => F x st c k)) := by
  unfold pI
  split
  · exact h _ _
  · exact Ct_o _
theorem Ct_pL {st : List Value} {F : Int64 → List Value → zC → zK → Option zR} (h : ∀ x st, Ct (F x st)) : Ct (fun c k => pL st (fun x st => F x st c k)) := by
  unfold pL
  split
  · exact h _ _
  · exact Ct_o _
theorem Ct_pA {st : List Value} {F : Nat → List Value → zC → zK → Option zR} (h : ∀ x st, Ct (F x st)) : Ct (fun c k => pA st (fun x st => F x st c k)) := by
  unfold pA
  split
  · exact h _ _
  · exact Ct_o _
theorem Ct_p1 {st : List Value} {F : Value → List Value → zC → zK → Option zR} (h : ∀ x st, Ct (F x st)) : Ct (fun c k => p1 st (fun x st => F x st c k)) := by
  unfold p1
  split
  · exact h _ _
  · exact h _ _
  · exact Ct_o _
theorem Ct_pN {st : List Value} {F : zC → zK → Option zR} (h : Ct F) : Ct (fun c k => pN st (F c k)) := by
  unfold pN
  split
  · exact h
  · exact Ct_o _
theorem Ct_pS {sc : Option (Nat × (Nat → Int32))} {F : Nat → (Nat → Int32) → zC → zK → Option zR} (h : ∀ x st, Ct (F x st)) : Ct (fun c k => pS sc (fun x st => F x st c k)) := by
  unfold pS
  split
  · exact h _ _
  · exact Ct_o _
theorem Ct_pop {n : Nat} {st : List Value} {F : List Value → List Value → zC → zK → Option zR} (h : ∀ x st, Ct (F x st)) : Ct (fun c k => pop n st (fun x st => F x st c k)) := by
  unfold pop
  exact Ct_ite (h _ _) (Ct_o _)
theorem Ct_zsw {x : Int32} {F : Nat → zC → zK → Option zR} (h : ∀ t, Ct (F t)) (d : Nat) : ∀ (ts : List Nat) (lo : Int), Ct (fun c k => zsw x (fun t => F t c k) d lo ts)
  | [], _ => h d
  | _ :: ts, lo => Ct_ite (h _) (Ct_zsw h d ts (lo + 1))
theorem bV_some {o : Option zR} {f : (zM → Option zR)} {r : zR} (h : bV o f = some r) : ∃ M, o = some (none, M) ∧ f M = some r := by
  unfold bV at h
  split at h
  · exact ⟨_, rfl, h⟩
  · cases h
theorem Ct_bV {G : zC → zK → Option zR} {F : zM → zC → zK → Option zR} (hG : Ct G) (h : ∀ M, Ct (F M)) : Ct (fun c k => bV (G c k) (fun M => F M c k)) := by
  refine ⟨fun c c' k k' r hc hk e => ?_, fun c k hc hk r e => ?_⟩
  · obtain ⟨M, e1, e2⟩ := bV_some e
    show bV (G c' k') (fun M => F M c' k') = some r
    rw [hG.1 _ _ _ _ _ hc hk e1]
    exact (h M).1 _ _ _ _ _ hc hk e2
  · obtain ⟨M, e1, e2⟩ := bV_some e
    obtain ⟨n1, h1⟩ := hG.2 _ _ hc hk _ e1
    obtain ⟨n2, h2⟩ := (h M).2 _ _ hc hk _ e2
    have cc : ∀ {n m : Nat}, n ≤ m → cLe (c n) (c m) := fun hnm z as M r => ch_le (f := fun n => c n z as M) (fun n r => hc n z as M r) hnm
    have kk : ∀ {n m : Nat}, n ≤ m → kLe (k n) (k m) := fun hnm a1 a2 a3 a4 r => ch_le (f := fun n => k n a1 a2 a3 a4) (fun n r => hk n a1 a2 a3 a4 r) hnm
    refine ⟨max n1 n2, ?_⟩
    have g1 := hG.1 _ _ _ _ _ (cc (Nat.le_max_left n1 n2)) (kk (Nat.le_max_left n1 n2)) h1
    have g2 := (h M).1 _ _ _ _ _ (cc (Nat.le_max_right n1 n2)) (kk (Nat.le_max_right n1 n2)) h2
    show bV (G (c (max n1 n2)) (k (max n1 n2))) (fun M => F M (c (max n1 n2)) (k (max n1 n2))) = some r
    rw [g1]
    exact g2
theorem bI_some {o : Option zR} {f : (Int32 → zM → Option zR)} {r : zR} (h : bI o f = some r) : ∃ x M, o = some (some (.int x), M) ∧ f x M = some r := by
  unfold bI at h
  split at h
  · exact ⟨_, _, rfl, h⟩
  · cases h
theorem Ct_bI {G : zC → zK → Option zR} {F : Int32 → zM → zC → zK → Option zR} (hG : Ct G) (h : ∀ x M, Ct (F x M)) : Ct (fun c k => bI (G c k) (fun x M => F x M c k)) := by
  refine ⟨fun c c' k k' r hc hk e => ?_, fun c k hc hk r e => ?_⟩
  · obtain ⟨x, M, e1, e2⟩ := bI_some e
    show bI (G c' k') (fun x M => F x M c' k') = some r
    rw [hG.1 _ _ _ _ _ hc hk e1]
    exact (h x M).1 _ _ _ _ _ hc hk e2
  · obtain ⟨x, M, e1, e2⟩ := bI_some e
    obtain ⟨n1, h1⟩ := hG.2 _ _ hc hk _ e1
    obtain ⟨n2, h2⟩ := (h x M).2 _ _ hc hk _ e2
    have cc : ∀ {n m : Nat}, n ≤ m → cLe (c n) (c m) := fun hnm z as M r => ch_le (f := fun n => c n z as M) (fun n r => hc n z as M r) hnm
    have kk : ∀ {n m : Nat}, n ≤ m → kLe (k n) (k m) := fun hnm a1 a2 a3 a4 r => ch_le (f := fun n => k n a1 a2 a3 a4) (fun n r => hk n a1 a2 a3 a4 r) hnm
    refine ⟨max n1 n2, ?_⟩
    have g1 := hG.1 _ _ _ _ _ (cc (Nat.le_max_left n1 n2)) (kk (Nat.le_max_left n1 n2)) h1
    have g2 := (h x M).1 _ _ _ _ _ (cc (Nat.le_max_right n1 n2)) (kk (Nat.le_max_right n1 n2)) h2
    show bI (G (c (max n1 n2)) (k (max n1 n2))) (fun x M => F x M (c (max n1 n2)) (k (max n1 n2))) = some r
    rw [g1]
    exact g2
theorem bL_some {o : Option zR} {f : (Int64 → zM → Option zR)} {r : zR} (h : bL o f = some r) : ∃ x M, o = some (some (.long x), M) ∧ f x M = some r := by
  unfold bL at h
  split at h
  · exact ⟨_, _, rfl, h⟩
  · cases h
theorem Ct_bL {G : zC → zK → Option zR} {F : Int64 → zM → zC → zK → Option zR} (hG : Ct G) (h : ∀ x M, Ct (F x M)) : Ct (fun c k => bL (G c k) (fun x M => F x M c k)) := by
  refine ⟨fun c c' k k' r hc hk e => ?_, fun c k hc hk r e => ?_⟩
  · obtain ⟨x, M, e1, e2⟩ := bL_some e
    show bL (G c' k') (fun x M => F x M c' k') = some r
    rw [hG.1 _ _ _ _ _ hc hk e1]
    exact (h x M).1 _ _ _ _ _ hc hk e2
  · obtain ⟨x, M, e1, e2⟩ := bL_some e
    obtain ⟨n1, h1⟩ := hG.2 _ _ hc hk _ e1
    obtain ⟨n2, h2⟩ := (h x M).2 _ _ hc hk _ e2
    have cc : ∀ {n m : Nat}, n ≤ m → cLe (c n) (c m) := fun hnm z as M r => ch_le (f := fun n => c n z as M) (fun n r => hc n z as M r) hnm
    have kk : ∀ {n m : Nat}, n ≤ m → kLe (k n) (k m) := fun hnm a1 a2 a3 a4 r => ch_le (f := fun n => k n a1 a2 a3 a4) (fun n r => hk n a1 a2 a3 a4 r) hnm
    refine ⟨max n1 n2, ?_⟩
    have g1 := hG.1 _ _ _ _ _ (cc (Nat.le_max_left n1 n2)) (kk (Nat.le_max_left n1 n2)) h1
    have g2 := (h x M).1 _ _ _ _ _ (cc (Nat.le_max_right n1 n2)) (kk (Nat.le_max_right n1 n2)) h2
    show bL (G (c (max n1 n2)) (k (max n1 n2))) (fun x M => F x M (c (max n1 n2)) (k (max n1 n2))) = some r
    rw [g1]
    exact g2
theorem Ct_cB {ret : Nat} {G : zC → zK → Option zR} {F : List Value → zM → zC → zK → Option zR} (hG : Ct G) (h : ∀ v M, Ct (F v M)) : Ct (fun c k => cBack ret (G c k) (fun v M => F v M c k)) := by
  unfold cBack
  exact Ct_ite (Ct_bV hG fun M => h _ M) (Ct_ite (Ct_bI hG fun x M => h _ M) (Ct_bL hG fun x M => h _ M))
theorem stp_Ct (sc : Option (Nat × (Nat → Int32))) (e : zE) (ls : zLs) (st : List Value) (M : zM) : Ct (fun c k => stp sc c e ls st M k) := by
  obtain ⟨pc, ins, nxt, aux, ld⟩ := e
  cases ins
  case ifCond c o => cases c <;> exact Ct_pI fun _ _ => Ct_ite (Ct_k ..) (Ct_k ..)
  case if_icmp c o => cases c <;> exact Ct_pI fun _ _ => Ct_pI fun _ _ => Ct_ite (Ct_k ..) (Ct_k ..)
  all_goals first
    | exact Ct_o none
    | exact Ct_k ..
    | exact Ct_lI fun _ => Ct_k ..
    | exact Ct_lL fun _ => Ct_k ..
    | exact Ct_lA fun _ => Ct_k ..
    | exact Ct_pI fun _ _ => Ct_k ..
    | exact Ct_pL fun _ _ => Ct_k ..
    | exact Ct_pA fun _ _ => Ct_k ..
    | exact Ct_p1 fun _ _ => Ct_k ..
    | exact Ct_p1 fun _ _ => Ct_p1 fun _ _ => Ct_k ..
    | exact Ct_pI fun _ _ => Ct_pI fun _ _ => Ct_k ..
    | exact Ct_pL fun _ _ => Ct_pL fun _ _ => Ct_k ..
    | exact Ct_pI fun _ _ => Ct_pI fun _ _ => Ct_ite (Ct_o _) (Ct_k ..)
    | exact Ct_pI fun _ _ => Ct_ite (Ct_k ..) (Ct_o _)
    | exact Ct_pI fun _ _ => Ct_pI fun _ _ => Ct_ite (Ct_k ..) (Ct_o _)
    | exact Ct_pN (Ct_o _)
    | exact Ct_pI fun _ _ => Ct_pN (Ct_o _)
    | exact Ct_pL fun _ _ => Ct_pN (Ct_o _)
    | exact Ct_ite (Ct_k ..) (Ct_k ..)
    | exact Ct_ite (Ct_k ..) (Ct_o _)
    | exact Ct_pI fun _ _ => Ct_pA fun _ _ => Ct_ite (Ct_k ..) (Ct_o _)
    | exact Ct_pI fun _ _ => Ct_pI fun _ _ => Ct_pA fun _ _ => Ct_ite (Ct_k ..) (Ct_o _)
    | exact Ct_pL fun _ _ => Ct_pI fun _ _ => Ct_pA fun _ _ => Ct_ite (Ct_k ..) (Ct_o _)
    | exact Ct_pA fun _ _ => Ct_pI fun _ _ => Ct_pA fun _ _ => Ct_ite (Ct_k ..) (Ct_o _)
    | skip
  case tableswitch d lo hi os => exact Ct_pI fun _ _ => Ct_zsw (fun _ => Ct_k ..) _ _ _
  case getfield i => exact Ct_ite (Ct_ite (Ct_pA fun _ _ => Ct_ite (Ct_k ..) (Ct_o _)) (Ct_pA fun _ _ => Ct_ite (Ct_k ..) (Ct_o _))) (Ct_ite (Ct_pA fun _ _ => Ct_ite (Ct_k ..) (Ct_o _)) (Ct_ite (Ct_pA fun _ _ => Ct_ite (Ct_k ..) (Ct_o _)) (Ct_pA fun _ _ => Ct_ite (Ct_k ..) (Ct_o _))))
  case putfield i => exact Ct_ite (Ct_pI fun _ _ => Ct_pA fun _ _ => Ct_ite (Ct_k ..) (Ct_o _)) <| Ct_ite (Ct_pI fun _ _ => Ct_pA fun _ _ => Ct_ite (Ct_k ..) (Ct_o _)) (Ct_ite (Ct_pL fun _ _ => Ct_pA fun _ _ => Ct_ite (Ct_k ..) (Ct_o _)) (Ct_pA fun _ _ => Ct_pA fun _ _ => Ct_ite (Ct_k ..) (Ct_o _)))
  case iaload => exact Ct_ite (Ct_pS fun _ _ => Ct_pI fun _ _ => Ct_pA fun _ _ => Ct_ite (Ct_k ..) (Ct_o _)) (Ct_pI fun _ _ => Ct_pA fun _ _ => Ct_ite (Ct_k ..) (Ct_o _))
  case baload => exact Ct_ite (Ct_pI fun _ _ => Ct_pA fun _ _ => Ct_ite (Ct_k ..) (Ct_o _)) (Ct_pI fun _ _ => Ct_pA fun _ _ => Ct_ite (Ct_k ..) (Ct_o _))
  case bastore => exact Ct_ite (Ct_pI fun _ _ => Ct_pI fun _ _ => Ct_pA fun _ _ => Ct_ite (Ct_k ..) (Ct_o _)) (Ct_pI fun _ _ => Ct_pI fun _ _ => Ct_pA fun _ _ => Ct_ite (Ct_k ..) (Ct_o _))
  case arraylength => exact Ct_ite (Ct_pS fun _ _ => Ct_pA fun _ _ => Ct_ite (Ct_k ..) (Ct_o _)) (Ct_ite (Ct_pA fun _ _ => Ct_ite (Ct_k ..) (Ct_o _)) (Ct_pA fun _ _ => Ct_ite (Ct_k ..) (Ct_o _)))
  case invokestatic i => exact Ct_ite (Ct_pI fun _ _ => Ct_pI fun _ _ => Ct_pA fun _ _ => Ct_pI fun _ _ => Ct_pA fun _ _ => Ct_ite (Ct_pN (Ct_k ..)) (Ct_o _)) (Ct_pop fun _ _ => Ct_cB (Ct_call ..) fun _ _ => Ct_ite (Ct_k ..) (Ct_o _))
  case invokevirtual i =>
    show Ct (fun c k => pop (aux.getD 1 0) st fun as st => pA st fun r st => if gK M r = aux.getD 3 0 then cBack (aux.getD 2 0) (c (aux.getD 0 0) (.ref r :: as) M) fun v M1 => if M1.1.1 = M.1.1 then k nxt ls (v ++ st) M1 else none else none)
    refine Ct_pop fun as st => Ct_pA fun r st => ?_
    refine Ct_ite ?_ (Ct_o _)
    exact Ct_cB (Ct_call ..) fun _ _ => Ct_ite (Ct_k ..) (Ct_o _)
  case dup => 
    show Ct (fun c k => p1 st fun v st => k nxt ls (v :: v :: st) M)
    refine Ct_p1 fun v st => ?_
    exact Ct_k ..
  case dup2 =>
    show Ct (fun c k => p1 st fun v st => p1 st fun w st => k nxt ls (v :: w :: v :: w :: st) M)
    refine Ct_p1 fun v st => Ct_p1 fun w st => ?_
    exact Ct_k ..
  case pop =>
    show Ct (fun c k => p1 st fun _ st => k nxt ls st M)
    refine Ct_p1 fun v st => ?_
    exact Ct_k ..
  case invokespecial i => exact Ct_ite (Ct_pA fun _ _ => Ct_ite (Ct_pN (Ct_k ..)) (Ct_o _)) (Ct_pop fun _ _ => Ct_pA fun _ _ => Ct_ite (Ct_cB (Ct_call ..) fun _ _ => Ct_k ..) (Ct_o _))
/-- more fuel does no harm -/
theorem exe_c {sc : Option (Nat × (Nat → Int32))} {c c' : zC} (hc : cLe c c') (cd : List zE) : ∀ n, kLe (exe sc c cd n) (exe sc c' cd n)
  | 0 => fun _ _ _ _ _ h => by cases h
  | n + 1 => fun pc ls st M r h => by
    unfold exe at h ⊢
    split at h
    · cases h
    · rename_i e he
      exact (stp_Ct sc e ls st M).1 _ _ _ _ r hc (fun a1 a2 a3 a4 r => exe_c hc cd n a1 _ a3 a4 r) h
theorem exe_f {sc : Option (Nat × (Nat → Int32))} {c : zC} (cd : List zE) : ∀ n, kLe (exe sc c cd n) (exe sc c cd (n + 1))
  | 0 => fun _ _ _ _ _ h => by cases h
  | n + 1 => fun pc ls st M r h => by
    unfold exe at h ⊢
    split at h
    · cases h
    · rename_i e he
      exact (stp_Ct sc e ls st M).1 _ _ _ _ r (fun _ _ _ _ h => h) (fun a1 a2 a3 a4 r => exe_f cd n a1 _ a3 a4 r) h
theorem exe_up {sc : Option (Nat × (Nat → Int32))} {c c' : zC} (hc : cLe c c') (cd : List zE) (n : Nat) : kLe (exe sc c cd n) (exe sc c' cd (n + 1)) := fun a1 a2 a3 a4 r h => exe_f cd n _ _ _ _ _ (exe_c hc cd n a1 a2 a3 a4 r h)
theorem mth_up (cod : Nat → Nat × List zE) (n : Nat) : ∀ d, cLe (mth cod n d) (mth cod (n + 1) d)
  | 0 => fun _ _ _ _ h => by cases h
  | d + 1 => fun z as M r h => by
    unfold mth at h ⊢
    split at h
    · rename_i hz
      rw [if_pos hz]
      exact exe_up (mth_up cod n d) (cod z).2 n 0 _ [] M r h
    · cases h
noncomputable def evM (cod : Nat → Nat × List zE) (d : Nat) : zC := limC (fun n => mth cod n d)
noncomputable def evk (cod : Nat → Nat × List zE) (sc : Option (Nat × (Nat → Int32))) (d : Nat) (cd : List zE) : zK := limK (fun n => exe sc (mth cod n d) cd n)
theorem evk_ex {cod : Nat → Nat × List zE} {sc : Option (Nat × (Nat → Int32))} {d : Nat} {cd : List zE} {pc : Nat} {ls : zLs} {st : List Value} {M : zM} {r : zR} (h : evk cod sc d cd pc ls st M = some r) : ∃ n, exe sc (mth cod n d) cd n pc ls st M = some r := lim_ex h
/-- THE EQUATION of an instruction -/
theorem evk_eq (cod : Nat → Nat × List zE) (sc : Option (Nat × (Nat → Int32))) (d : Nat) (cd : List zE) (pc : Nat) (ls : zLs) (st : List Value) (M : zM) :
    evk cod sc d cd pc ls st M = match zent cd pc with
      | none => none
      | some e => stp sc (evM cod d) e ls st M (fun pc' ls' st' M' => evk cod sc d cd pc' (zms cd pc' ls') st' M') := by
  have up : ∀ n, kLe (exe sc (mth cod n d) cd n) (exe sc (mth cod (n + 1) d) cd (n + 1)) := fun n => exe_up (mth_up cod n d) cd n
  have key : ∀ r, evk cod sc d cd pc ls st M = some r ↔ (match zent cd pc with
      | none => none
      | some e => stp sc (evM cod d) e ls st M (fun pc' ls' st' M' => evk cod sc d cd pc' (zms cd pc' ls') st' M')) = some r := by
    intro r
    constructor
    · intro h
      obtain ⟨n, hn⟩ := lim_ex h
      cases n with
      | zero => cases hn
      | succ n =>
        simp only [exe] at hn
        split at hn
        · cases hn
        · rename_i e he
          rw [he]
          refine (stp_Ct sc e ls st M).1 _ _ _ _ r ?_ ?_ hn
          · intro z as M r h
            exact lim_of (f := fun n => mth cod n d z as M) (n := n + 1) (fun n r h => mth_up cod n d z as M r h) h
          · intro a1 a2 a3 a4 r h
            exact lim_of (f := fun n => exe sc (mth cod n d) cd n a1 (zms cd a1 a2) a3 a4) (n := n + 1) (fun n r h => up n _ _ _ _ r h) (exe_f cd n _ _ _ _ r h)
    · intro h
      cases hz : zent cd pc with
      | none => rw [hz] at h; cases h
      | some e =>
        rw [hz] at h
        obtain ⟨n, hn⟩ := (stp_Ct sc e ls st M).2 (fun n => mth cod n d) (fun n pc' ls' st' M' => exe sc (mth cod n d) cd n pc' (zms cd pc' ls') st' M') (fun n => mth_up cod n d) (fun n a1 a2 a3 a4 r h => up n _ _ _ _ r h) r h
        refine lim_of (n := n + 1) (fun n r h => up n _ _ _ _ r h) ?_
        unfold exe
        rw [hz]
        exact (stp_Ct sc e ls st M).1 _ _ _ _ r (mth_up cod n d) (fun a1 a2 a3 a4 r h => exe_c (mth_up cod n d) cd n _ _ _ _ r h) hn
  cases h1 : evk cod sc d cd pc ls st M with
  | some r => exact ((key r).mp h1).symm
  | none =>
    cases h2 : (match zent cd pc with
      | none => none
      | some e => stp sc (evM cod d) e ls st M (fun pc' ls' st' M' => evk cod sc d cd pc' (zms cd pc' ls') st' M')) with
    | none => rfl
    | some r => rw [(key r).mpr h2] at h1; cases h1
/-- a method's end is its code's -/
theorem evM_eq (cod : Nat → Nat × List zE) (d z : Nat) (as : List Value) (M : zM) (h : zsum as ≤ (cod z).1) : evM cod (d + 1) z as M = evk cod none d (cod z).2 0 (lv_args 0 as) [] M := by
  show lim (fun n => mth cod n (d + 1) z as M) = lim (fun n => exe none (mth cod n d) (cod z).2 n 0 (lv_args 0 as) [] M)
  congr 1
  funext n
  exact if_pos h
