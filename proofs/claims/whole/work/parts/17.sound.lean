/-! THE PURE MACHINE SAYS THE TRUTH -/
def zX (ad : Nat → Nat) (fv : Value) (A : Nat → Prop) (U : State) (H : Heap) : Prop :=
  vk_S 2 [112, 9] [zby 4, zby 5] (fun i => if i = 0 then ad 2 else ad 3) (fun i => if i = 0 then ad 4 else ad 5) A U H ∧
  vk_R "SilkRise$Tokens" 39 "load silk hook lift wind ties pays rim gusts seed if then else hour day size weight high across price up stored " (ad 2) U ∧
  vk_R "SilkRise$Tokens" 88 ";=+-*/<()" (ad 3) U ∧
  va_Z "java/lang/String" "COMPACT_STRINGS" "Z" (.int 1) A U H ∧
  va_Z "jdk/internal/util/Preconditions" "SIOOBE_FORMATTER" "Ljava/util/function/BiFunction;" fv A U H
def zCx (p : Program) (R : Room) (s : State) (m : MethodId) (args : Array Value) (meth : Method) (c : Code) (own : String) (cc : ByteArray) (nL : Nat) (ini : Bool) (D : va_G) (cA : Nat → ClassId) (fv : Value) (A : Nat → Prop) (ad0 : Nat → Nat) (d : Nat) : Prop :=
  p.tables.exec = Jvm.exec ∧ c.code = cc ∧ c.maxLocals = nL ∧ s.vm.findClass own = some m.cls ∧ (∀ w ∈ zTb, w.before args s = true) ∧ va_K D zCl (ztys cA) s ∧ (∀ q, s.heap.size ≤ q → A q) ∧ (ini = true → meth.name = "<init>") ∧ zX ad0 fv A s s.heap ∧ (fv = .null ∨ ∃ t, fv = .ref t) ∧ d + 1 ≤ R.frames ∧ 60 * d + 60 ≤ R.locals
def zW (p : Program) (l : Launch) (e : Env) (R : Room) (s : State) (m : MethodId) (args : Array Value) (below : List Frame) (meth : Method) (c : Code) (Q : State → Prop) (D : va_G) (cA : Nat → ClassId) (fv : Value) (A : Nat → Prop) (ad0 : Nat → Nat) (M0 : zM) (nL : Nat) (pc : Nat) (ls : zLs) (st : List Value) (M : zM) : Prop :=
  ∀ (ad : Nat → Nat) (H : Heap) (locs : List Loc) (L : Array Slot), (∀ r, (r < M0.1.1 + 7 ∨ M.1.1 + 7 ≤ r) → ad r = ad0 r) → M0.1.1 ≤ M.1.1 → M0.1.2.1 ≤ M.1.2.1 → zwf M → va_P D zCl (zws ad cA M) H → va_D A (zws ad cA M) → va_S A s.heap H locs → lv_has L nL (ls.map (zq fv ad)) →
    W p l e R s m args below meth c H locs (M.1.1 - M0.1.1) (M.1.2.1 - M0.1.2.1) Q (F0 m pc L (st.map (zv fv ad)))
def zRet (cc : ByteArray) (rt : Option FieldType) (pc : Nat) (st : List Value) (v : Option Value) : Prop :=
  (decode cc pc = .ok (.ireturn, 1) ∧ ∃ x, v = some (.int x) ∧ st = [.int x] ∧ ∃ ty, rt = some ty ∧ narrow ty (.int x) = .int x) ∨
  (decode cc pc = .ok (.lreturn, 1) ∧ ∃ x, v = some (.long x) ∧ st = [.long x] ∧ rt = some .long) ∨
  (decode cc pc = .ok (.return_, 1) ∧ v = none ∧ st = [] ∧ rt = none)
def zw (z : Nat) : List Jvm.Cond := .code (zinf z).1 (zinf z).2.1 (zinf z).2.2.1 (zinf z).2.2.2 :: zTb.filter goodWord
def zPre (D : va_G) (cA : Nat → ClassId) (fv : Value) (ad : Nat → Nat) (M : zM) (sz : Nat) (U : State) : Prop :=
  U.heap.size = sz ∧ zwf M ∧ va_P D zCl (zws ad cA M) U.heap ∧ va_K D zCl (ztys cA) U ∧ va_D (fun _ => True) (zws ad cA M) ∧ zX ad fv (va_A (zws ad cA M) sz) U U.heap ∧ ∀ w ∈ zTb, nestw w = true → w.before #[] U = true
def zQc (D : va_G) (cA : Nat → ClassId) (fv : Value) (ad : Nat → Nat) (M : zM) (sz : Nat) (v : Option Value) (M1 : zM) : Array Value → State → Outcome → State → Prop := fun _ st o t =>
  (∃ ad' : Nat → Nat, (∀ r, (r < M.1.1 + 7 ∨ M1.1.1 + 7 ≤ r) → ad' r = ad r) ∧ zwf M1 ∧ o = .returned (v.map (zv fv ad')) ∧ va_P D zCl (zws ad' cA M1) t.heap ∧ va_D (va_A (zws ad cA M) sz) (zws ad' cA M1)) ∧ va_F (va_A (zws ad cA M) sz) st t
def zrm (d : Nat) (M M1 : zM) : Room := { frames := d, cells := M1.1.1 - M.1.1, slots := M1.1.2.1 - M.1.2.1, locals := 60 * d }
def zMet (l : Launch) (d z : Nat) (as : List Value) (M : zM) (v : Option Value) (M1 : zM) : Prop :=
  ∀ (D : va_G) (cA : Nat → ClassId) (fv : Value) (ad : Nat → Nat) (sz : Nat), (fv = .null ∨ ∃ t, fv = .ref t) →
    Met l (zinf z).1 (zw z) (zrm d M M1) (va_Pc (as.map (zv fv ad)) (zPre D cA fv ad M sz)) (zQc D cA fv ad M sz v M1) (M1.1.1 - M.1.1) (M1.1.2.1 - M.1.2.1) (va_A (zws ad cA M) sz)
theorem zchk_of {cc : ByteArray} {pc nxt n : Nat} {ins : Instr} {aux : List Nat} {ld : Option (List Nat)} (h : zchk cc (pc, ins, nxt, aux, ld) n = true) : decode cc pc = .ok (ins, n) ∧ nxt = pc + n := by
  unfold zchk at h
  rw [Bool.and_eq_true] at h
  exact ⟨of_decide_eq_true h.1, of_decide_eq_true h.2⟩
theorem zin_vp {i : Int32} {n : Nat} (h : zin i n) : vp_in i n := vp_in_iff.mpr h
theorem zchk_of2 {cc : ByteArray} {pc nxt n : Nat} {ins : Instr} {aux : List Nat} {ld : Option (List Nat)} {b : Bool} (h : (zchk cc (pc, ins, nxt, aux, ld) n && b) = true) : decode cc pc = .ok (ins, n) ∧ nxt = pc + n ∧ b = true := by
  rw [Bool.and_eq_true] at h
  exact ⟨(zchk_of h.1).1, (zchk_of h.1).2, h.2⟩
theorem ss_iload_n {p : Program} {l : Launch} {e : Env} {R : Room} {s : State} {m : MethodId} {args : Array Value} {below : List Frame} {meth : Method} {c : Code} {own : String} {cc : ByteArray} {nL : Nat} {ini : Bool} {D : va_G} {cA : Nat → ClassId} {fv : Value} {A : Nat → Prop} {ad0 : Nat → Nat} {d : Nat} {Q : State → Prop} {rr : zR} {M0 : zM} {rt : Option FieldType} {sc : Option (Nat × (Nat → Int32))} {cal : zC} {k : zK}
    (C : zCx p R s m args meth c own cc nL ini D cA fv A ad0 d) (hk : ∀ pc' ls' st' M', k pc' ls' st' M' = some rr → zW p l e R s m args below meth c Q D cA fv A ad0 M0 nL pc' ls' st' M') {pc nxt : Nat} {aux : List Nat} {ld : Option (List Nat)} {ls : zLs} {st : List Value} {M : zM} {i : Fin 4} 
    (hok : zOk own cc nL rt ini (pc, .iload_n i, nxt, aux, ld) = true) (h : stp sc cal (pc, .iload_n i, nxt, aux, ld) ls st M k = some rr) : zW p l e R s m args below meth c Q D cA fv A ad0 M0 nL pc ls st M := by
  obtain ⟨hx, hb, hml, hown, hts, hK, hA, hini, hX, hfv, hfr, hlo⟩ := C
  obtain ⟨x, hz, h⟩ := lI_some h
  obtain ⟨hdg, rfl⟩ := zchk_of hok
  intro ad H locs L had hn1 hn2 hwf hP hD hS hl
  refine lv_iload_n hx hb hdg rfl (zl_has hl hz) ?_
  exact hk _ _ _ _ h ad H locs L had hn1 hn2 hwf hP hD hS hl
theorem ss_iload {p : Program} {l : Launch} {e : Env} {R : Room} {s : State} {m : MethodId} {args : Array Value} {below : List Frame} {meth : Method} {c : Code} {own : String} {cc : ByteArray} {nL : Nat} {ini : Bool} {D : va_G} {cA : Nat → ClassId} {fv : Value} {A : Nat → Prop} {ad0 : Nat → Nat} {d : Nat} {Q : State → Prop} {rr : zR} {M0 : zM} {rt : Option FieldType} {sc : Option (Nat × (Nat → Int32))} {cal : zC} {k : zK}
    (C : zCx p R s m args meth c own cc nL ini D cA fv A ad0 d) (hk : ∀ pc' ls' st' M', k pc' ls' st' M' = some rr → zW p l e R s m args below meth c Q D cA fv A ad0 M0 nL pc' ls' st' M') {pc nxt : Nat} {aux : List Nat} {ld : Option (List Nat)} {ls : zLs} {st : List Value} {M : zM} {i : Nat} 
    (hok : zOk own cc nL rt ini (pc, .iload i, nxt, aux, ld) = true) (h : stp sc cal (pc, .iload i, nxt, aux, ld) ls st M k = some rr) : zW p l e R s m args below meth c Q D cA fv A ad0 M0 nL pc ls st M := by
  obtain ⟨hx, hb, hml, hown, hts, hK, hA, hini, hX, hfv, hfr, hlo⟩ := C
  obtain ⟨x, hz, h⟩ := lI_some h
  obtain ⟨hdg, rfl⟩ := zchk_of hok
  intro ad H locs L had hn1 hn2 hwf hP hD hS hl
  refine lv_iload hx hb hdg (zl_has hl hz) ?_
  exact hk _ _ _ _ h ad H locs L had hn1 hn2 hwf hP hD hS hl
theorem ss_lload_n {p : Program} {l : Launch} {e : Env} {R : Room} {s : State} {m : MethodId} {args : Array Value} {below : List Frame} {meth : Method} {c : Code} {own : String} {cc : ByteArray} {nL : Nat} {ini : Bool} {D : va_G} {cA : Nat → ClassId} {fv : Value} {A : Nat → Prop} {ad0 : Nat → Nat} {d : Nat} {Q : State → Prop} {rr : zR} {M0 : zM} {rt : Option FieldType} {sc : Option (Nat × (Nat → Int32))} {cal : zC} {k : zK}
    (C : zCx p R s m args meth c own cc nL ini D cA fv A ad0 d) (hk : ∀ pc' ls' st' M', k pc' ls' st' M' = some rr → zW p l e R s m args below meth c Q D cA fv A ad0 M0 nL pc' ls' st' M') {pc nxt : Nat} {aux : List Nat} {ld : Option (List Nat)} {ls : zLs} {st : List Value} {M : zM} {i : Fin 4} 
    (hok : zOk own cc nL rt ini (pc, .lload_n i, nxt, aux, ld) = true) (h : stp sc cal (pc, .lload_n i, nxt, aux, ld) ls st M k = some rr) : zW p l e R s m args below meth c Q D cA fv A ad0 M0 nL pc ls st M := by
  obtain ⟨hx, hb, hml, hown, hts, hK, hA, hini, hX, hfv, hfr, hlo⟩ := C
  obtain ⟨x, hz, h⟩ := lL_some h
  obtain ⟨hdg, rfl⟩ := zchk_of hok
  intro ad H locs L had hn1 hn2 hwf hP hD hS hl
  refine lv_lload_n hx hb hdg rfl (zl_has hl hz) ?_
  exact hk _ _ _ _ h ad H locs L had hn1 hn2 hwf hP hD hS hl
theorem ss_lload {p : Program} {l : Launch} {e : Env} {R : Room} {s : State} {m : MethodId} {args : Array Value} {below : List Frame} {meth : Method} {c : Code} {own : String} {cc : ByteArray} {nL : Nat} {ini : Bool} {D : va_G} {cA : Nat → ClassId} {fv : Value} {A : Nat → Prop} {ad0 : Nat → Nat} {d : Nat} {Q : State → Prop} {rr : zR} {M0 : zM} {rt : Option FieldType} {sc : Option (Nat × (Nat → Int32))} {cal : zC} {k : zK}
    (C : zCx p R s m args meth c own cc nL ini D cA fv A ad0 d) (hk : ∀ pc' ls' st' M', k pc' ls' st' M' = some rr → zW p l e R s m args below meth c Q D cA fv A ad0 M0 nL pc' ls' st' M') {pc nxt : Nat} {aux : List Nat} {ld : Option (List Nat)} {ls : zLs} {st : List Value} {M : zM} {i : Nat} 
    (hok : zOk own cc nL rt ini (pc, .lload i, nxt, aux, ld) = true) (h : stp sc cal (pc, .lload i, nxt, aux, ld) ls st M k = some rr) : zW p l e R s m args below meth c Q D cA fv A ad0 M0 nL pc ls st M := by
  obtain ⟨hx, hb, hml, hown, hts, hK, hA, hini, hX, hfv, hfr, hlo⟩ := C
  obtain ⟨x, hz, h⟩ := lL_some h
  obtain ⟨hdg, rfl⟩ := zchk_of hok
  intro ad H locs L had hn1 hn2 hwf hP hD hS hl
  refine lv_lload hx hb hdg (zl_has hl hz) ?_
  exact hk _ _ _ _ h ad H locs L had hn1 hn2 hwf hP hD hS hl
theorem ss_aload_n {p : Program} {l : Launch} {e : Env} {R : Room} {s : State} {m : MethodId} {args : Array Value} {below : List Frame} {meth : Method} {c : Code} {own : String} {cc : ByteArray} {nL : Nat} {ini : Bool} {D : va_G} {cA : Nat → ClassId} {fv : Value} {A : Nat → Prop} {ad0 : Nat → Nat} {d : Nat} {Q : State → Prop} {rr : zR} {M0 : zM} {rt : Option FieldType} {sc : Option (Nat × (Nat → Int32))} {cal : zC} {k : zK}
    (C : zCx p R s m args meth c own cc nL ini D cA fv A ad0 d) (hk : ∀ pc' ls' st' M', k pc' ls' st' M' = some rr → zW p l e R s m args below meth c Q D cA fv A ad0 M0 nL pc' ls' st' M') {pc nxt : Nat} {aux : List Nat} {ld : Option (List Nat)} {ls : zLs} {st : List Value} {M : zM} {i : Fin 4} 
    (hok : zOk own cc nL rt ini (pc, .aload_n i, nxt, aux, ld) = true) (h : stp sc cal (pc, .aload_n i, nxt, aux, ld) ls st M k = some rr) : zW p l e R s m args below meth c Q D cA fv A ad0 M0 nL pc ls st M := by
  obtain ⟨hx, hb, hml, hown, hts, hK, hA, hini, hX, hfv, hfr, hlo⟩ := C
  obtain ⟨x, hz, h⟩ := lA_some h
  obtain ⟨hdg, rfl⟩ := zchk_of hok
  intro ad H locs L had hn1 hn2 hwf hP hD hS hl
  have hv := zl_has hl hz
  have hq := hk _ _ _ _ h ad H locs L had hn1 hn2 hwf hP hD hS hl
  have hv : L[_]? = some (Slot.val (rfv ad x)) := hv
  by_cases h0 : x = 0
  · subst h0; exact lv_aload_nN hx hb hdg rfl hv hq
  · have e1 : rfv ad x = .ref (ad x) := if_neg h0
    rw [e1] at hv
    refine lv_aload_n hx hb hdg rfl hv ?_
    have e2 : zv fv ad (.ref x) = .ref (ad x) := e1
    rw [List.map_cons, e2] at hq
    exact hq
theorem ss_aload {p : Program} {l : Launch} {e : Env} {R : Room} {s : State} {m : MethodId} {args : Array Value} {below : List Frame} {meth : Method} {c : Code} {own : String} {cc : ByteArray} {nL : Nat} {ini : Bool} {D : va_G} {cA : Nat → ClassId} {fv : Value} {A : Nat → Prop} {ad0 : Nat → Nat} {d : Nat} {Q : State → Prop} {rr : zR} {M0 : zM} {rt : Option FieldType} {sc : Option (Nat × (Nat → Int32))} {cal : zC} {k : zK}
    (C : zCx p R s m args meth c own cc nL ini D cA fv A ad0 d) (hk : ∀ pc' ls' st' M', k pc' ls' st' M' = some rr → zW p l e R s m args below meth c Q D cA fv A ad0 M0 nL pc' ls' st' M') {pc nxt : Nat} {aux : List Nat} {ld : Option (List Nat)} {ls : zLs} {st : List Value} {M : zM} {i : Nat} 
    (hok : zOk own cc nL rt ini (pc, .aload i, nxt, aux, ld) = true) (h : stp sc cal (pc, .aload i, nxt, aux, ld) ls st M k = some rr) : zW p l e R s m args below meth c Q D cA fv A ad0 M0 nL pc ls st M := by
  obtain ⟨hx, hb, hml, hown, hts, hK, hA, hini, hX, hfv, hfr, hlo⟩ := C
  obtain ⟨x, hz, h⟩ := lA_some h
  obtain ⟨hdg, rfl⟩ := zchk_of hok
  intro ad H locs L had hn1 hn2 hwf hP hD hS hl
  have hv := zl_has hl hz
  have hq := hk _ _ _ _ h ad H locs L had hn1 hn2 hwf hP hD hS hl
  have hv : L[_]? = some (Slot.val (rfv ad x)) := hv
  by_cases h0 : x = 0
  · subst h0; exact lv_aloadN hx hb hdg hv hq
  · have e1 : rfv ad x = .ref (ad x) := if_neg h0
    rw [e1] at hv
    refine lv_aload hx hb hdg hv ?_
    have e2 : zv fv ad (.ref x) = .ref (ad x) := e1
    rw [List.map_cons, e2] at hq
    exact hq
theorem ss_istore_n {p : Program} {l : Launch} {e : Env} {R : Room} {s : State} {m : MethodId} {args : Array Value} {below : List Frame} {meth : Method} {c : Code} {own : String} {cc : ByteArray} {nL : Nat} {ini : Bool} {D : va_G} {cA : Nat → ClassId} {fv : Value} {A : Nat → Prop} {ad0 : Nat → Nat} {d : Nat} {Q : State → Prop} {rr : zR} {M0 : zM} {rt : Option FieldType} {sc : Option (Nat × (Nat → Int32))} {cal : zC} {k : zK}
    (C : zCx p R s m args meth c own cc nL ini D cA fv A ad0 d) (hk : ∀ pc' ls' st' M', k pc' ls' st' M' = some rr → zW p l e R s m args below meth c Q D cA fv A ad0 M0 nL pc' ls' st' M') {pc nxt : Nat} {aux : List Nat} {ld : Option (List Nat)} {ls : zLs} {st : List Value} {M : zM} {i : Fin 4} 
    (hok : zOk own cc nL rt ini (pc, .istore_n i, nxt, aux, ld) = true) (h : stp sc cal (pc, .istore_n i, nxt, aux, ld) ls st M k = some rr) : zW p l e R s m args below meth c Q D cA fv A ad0 M0 nL pc ls st M := by
  obtain ⟨hx, hb, hml, hown, hts, hK, hA, hini, hX, hfv, hfr, hlo⟩ := C
  obtain ⟨x, st, rfl, h⟩ := pI_some h
  obtain ⟨hdg, rfl, hi⟩ := zchk_of2 hok
  have hi := of_decide_eq_true hi
  have hf1 : fv.category = 1 := by rcases hfv with rfl | ⟨t, rfl⟩ <;> rfl
  intro ad H locs L had hn1 hn2 hwf hP hD hS hl
  refine lv_istore_n hx hb hdg rfl hl hi (zs1_map (ad := ad) hf1 ls i (.int x)) (fun L hl => ?_)
  exact hk _ _ _ _ h ad H locs L had hn1 hn2 hwf hP hD hS hl
theorem ss_istore {p : Program} {l : Launch} {e : Env} {R : Room} {s : State} {m : MethodId} {args : Array Value} {below : List Frame} {meth : Method} {c : Code} {own : String} {cc : ByteArray} {nL : Nat} {ini : Bool} {D : va_G} {cA : Nat → ClassId} {fv : Value} {A : Nat → Prop} {ad0 : Nat → Nat} {d : Nat} {Q : State → Prop} {rr : zR} {M0 : zM} {rt : Option FieldType} {sc : Option (Nat × (Nat → Int32))} {cal : zC} {k : zK}
    (C : zCx p R s m args meth c own cc nL ini D cA fv A ad0 d) (hk : ∀ pc' ls' st' M', k pc' ls' st' M' = some rr → zW p l e R s m args below meth c Q D cA fv A ad0 M0 nL pc' ls' st' M') {pc nxt : Nat} {aux : List Nat} {ld : Option (List Nat)} {ls : zLs} {st : List Value} {M : zM} {i : Nat} 
    (hok : zOk own cc nL rt ini (pc, .istore i, nxt, aux, ld) = true) (h : stp sc cal (pc, .istore i, nxt, aux, ld) ls st M k = some rr) : zW p l e R s m args below meth c Q D cA fv A ad0 M0 nL pc ls st M := by
  obtain ⟨hx, hb, hml, hown, hts, hK, hA, hini, hX, hfv, hfr, hlo⟩ := C
  obtain ⟨x, st, rfl, h⟩ := pI_some h
  obtain ⟨hdg, rfl, hi⟩ := zchk_of2 hok
  have hi := of_decide_eq_true hi
  have hf1 : fv.category = 1 := by rcases hfv with rfl | ⟨t, rfl⟩ <;> rfl
  intro ad H locs L had hn1 hn2 hwf hP hD hS hl
  refine lv_istore hx hb hdg hl hi (zs1_map (ad := ad) hf1 ls i (.int x)) (fun L hl => ?_)
  exact hk _ _ _ _ h ad H locs L had hn1 hn2 hwf hP hD hS hl
theorem ss_lstore_n {p : Program} {l : Launch} {e : Env} {R : Room} {s : State} {m : MethodId} {args : Array Value} {below : List Frame} {meth : Method} {c : Code} {own : String} {cc : ByteArray} {nL : Nat} {ini : Bool} {D : va_G} {cA : Nat → ClassId} {fv : Value} {A : Nat → Prop} {ad0 : Nat → Nat} {d : Nat} {Q : State → Prop} {rr : zR} {M0 : zM} {rt : Option FieldType} {sc : Option (Nat × (Nat → Int32))} {cal : zC} {k : zK}
    (C : zCx p R s m args meth c own cc nL ini D cA fv A ad0 d) (hk : ∀ pc' ls' st' M', k pc' ls' st' M' = some rr → zW p l e R s m args below meth c Q D cA fv A ad0 M0 nL pc' ls' st' M') {pc nxt : Nat} {aux : List Nat} {ld : Option (List Nat)} {ls : zLs} {st : List Value} {M : zM} {i : Fin 4} 
    (hok : zOk own cc nL rt ini (pc, .lstore_n i, nxt, aux, ld) = true) (h : stp sc cal (pc, .lstore_n i, nxt, aux, ld) ls st M k = some rr) : zW p l e R s m args below meth c Q D cA fv A ad0 M0 nL pc ls st M := by
  obtain ⟨hx, hb, hml, hown, hts, hK, hA, hini, hX, hfv, hfr, hlo⟩ := C
  obtain ⟨x, st, rfl, h⟩ := pL_some h
  obtain ⟨hdg, rfl, hi⟩ := zchk_of2 hok
  have hi := of_decide_eq_true hi
  have hf1 : fv.category = 1 := by rcases hfv with rfl | ⟨t, rfl⟩ <;> rfl
  intro ad H locs L had hn1 hn2 hwf hP hD hS hl
  refine lv_lstore_n hx hb hdg rfl hl hi (zs2_map (ad := ad) hf1 ls i (.long x)) (fun L hl => ?_)
  exact hk _ _ _ _ h ad H locs L had hn1 hn2 hwf hP hD hS hl
theorem ss_lstore {p : Program} {l : Launch} {e : Env} {R : Room} {s : State} {m : MethodId} {args : Array Value} {below : List Frame} {meth : Method} {c : Code} {own : String} {cc : ByteArray} {nL : Nat} {ini : Bool} {D : va_G} {cA : Nat → ClassId} {fv : Value} {A : Nat → Prop} {ad0 : Nat → Nat} {d : Nat} {Q : State → Prop} {rr : zR} {M0 : zM} {rt : Option FieldType} {sc : Option (Nat × (Nat → Int32))} {cal : zC} {k : zK}
    (C : zCx p R s m args meth c own cc nL ini D cA fv A ad0 d) (hk : ∀ pc' ls' st' M', k pc' ls' st' M' = some rr → zW p l e R s m args below meth c Q D cA fv A ad0 M0 nL pc' ls' st' M') {pc nxt : Nat} {aux : List Nat} {ld : Option (List Nat)} {ls : zLs} {st : List Value} {M : zM} {i : Nat} 
    (hok : zOk own cc nL rt ini (pc, .lstore i, nxt, aux, ld) = true) (h : stp sc cal (pc, .lstore i, nxt, aux, ld) ls st M k = some rr) : zW p l e R s m args below meth c Q D cA fv A ad0 M0 nL pc ls st M := by
  obtain ⟨hx, hb, hml, hown, hts, hK, hA, hini, hX, hfv, hfr, hlo⟩ := C
  obtain ⟨x, st, rfl, h⟩ := pL_some h
  obtain ⟨hdg, rfl, hi⟩ := zchk_of2 hok
  have hi := of_decide_eq_true hi
  have hf1 : fv.category = 1 := by rcases hfv with rfl | ⟨t, rfl⟩ <;> rfl
  intro ad H locs L had hn1 hn2 hwf hP hD hS hl
  refine lv_lstore hx hb hdg hl hi (zs2_map (ad := ad) hf1 ls i (.long x)) (fun L hl => ?_)
  exact hk _ _ _ _ h ad H locs L had hn1 hn2 hwf hP hD hS hl
theorem ss_astore_n {p : Program} {l : Launch} {e : Env} {R : Room} {s : State} {m : MethodId} {args : Array Value} {below : List Frame} {meth : Method} {c : Code} {own : String} {cc : ByteArray} {nL : Nat} {ini : Bool} {D : va_G} {cA : Nat → ClassId} {fv : Value} {A : Nat → Prop} {ad0 : Nat → Nat} {d : Nat} {Q : State → Prop} {rr : zR} {M0 : zM} {rt : Option FieldType} {sc : Option (Nat × (Nat → Int32))} {cal : zC} {k : zK}
    (C : zCx p R s m args meth c own cc nL ini D cA fv A ad0 d) (hk : ∀ pc' ls' st' M', k pc' ls' st' M' = some rr → zW p l e R s m args below meth c Q D cA fv A ad0 M0 nL pc' ls' st' M') {pc nxt : Nat} {aux : List Nat} {ld : Option (List Nat)} {ls : zLs} {st : List Value} {M : zM} {i : Fin 4} 
    (hok : zOk own cc nL rt ini (pc, .astore_n i, nxt, aux, ld) = true) (h : stp sc cal (pc, .astore_n i, nxt, aux, ld) ls st M k = some rr) : zW p l e R s m args below meth c Q D cA fv A ad0 M0 nL pc ls st M := by
  obtain ⟨hx, hb, hml, hown, hts, hK, hA, hini, hX, hfv, hfr, hlo⟩ := C
  obtain ⟨x, st, rfl, h⟩ := pA_some h
  obtain ⟨hdg, rfl, hi⟩ := zchk_of2 hok
  have hi := of_decide_eq_true hi
  have hf1 : fv.category = 1 := by rcases hfv with rfl | ⟨t, rfl⟩ <;> rfl
  intro ad H locs L had hn1 hn2 hwf hP hD hS hl
  have hm := zs1_map (ad := ad) hf1 ls i (.ref x)
  have hq := fun L hl => hk _ _ _ _ h ad H locs L had hn1 hn2 hwf hP hD hS hl
  rw [← hm] at hq
  by_cases h0 : x = 0
  · subst h0; exact lv_astore_nN hx hb hdg rfl hl hi rfl hq
  · have e1 : rfv ad x = .ref (ad x) := if_neg h0
    have e2 : zv fv ad (.ref x) = .ref (ad x) := e1
    rw [List.map_cons, e2]
    rw [e2] at hq
    exact lv_astore_n hx hb hdg rfl hl hi rfl hq
theorem ss_astore {p : Program} {l : Launch} {e : Env} {R : Room} {s : State} {m : MethodId} {args : Array Value} {below : List Frame} {meth : Method} {c : Code} {own : String} {cc : ByteArray} {nL : Nat} {ini : Bool} {D : va_G} {cA : Nat → ClassId} {fv : Value} {A : Nat → Prop} {ad0 : Nat → Nat} {d : Nat} {Q : State → Prop} {rr : zR} {M0 : zM} {rt : Option FieldType} {sc : Option (Nat × (Nat → Int32))} {cal : zC} {k : zK}
    (C : zCx p R s m args meth c own cc nL ini D cA fv A ad0 d) (hk : ∀ pc' ls' st' M', k pc' ls' st' M' = some rr → zW p l e R s m args below meth c Q D cA fv A ad0 M0 nL pc' ls' st' M') {pc nxt : Nat} {aux : List Nat} {ld : Option (List Nat)} {ls : zLs} {st : List Value} {M : zM} {i : Nat} 
    (hok : zOk own cc nL rt ini (pc, .astore i, nxt, aux, ld) = true) (h : stp sc cal (pc, .astore i, nxt, aux, ld) ls st M k = some rr) : zW p l e R s m args below meth c Q D cA fv A ad0 M0 nL pc ls st M := by
  obtain ⟨hx, hb, hml, hown, hts, hK, hA, hini, hX, hfv, hfr, hlo⟩ := C
  obtain ⟨x, st, rfl, h⟩ := pA_some h
  obtain ⟨hdg, rfl, hi⟩ := zchk_of2 hok
  have hi := of_decide_eq_true hi
  have hf1 : fv.category = 1 := by rcases hfv with rfl | ⟨t, rfl⟩ <;> rfl
  intro ad H locs L had hn1 hn2 hwf hP hD hS hl
  have hm := zs1_map (ad := ad) hf1 ls i (.ref x)
  have hq := fun L hl => hk _ _ _ _ h ad H locs L had hn1 hn2 hwf hP hD hS hl
  rw [← hm] at hq
  by_cases h0 : x = 0
  · subst h0; exact lv_astoreN hx hb hdg hl hi rfl hq
  · have e1 : rfv ad x = .ref (ad x) := if_neg h0
    have e2 : zv fv ad (.ref x) = .ref (ad x) := e1
    rw [List.map_cons, e2]
    rw [e2] at hq
    exact lv_astore hx hb hdg hl hi rfl hq
theorem ss_iinc {p : Program} {l : Launch} {e : Env} {R : Room} {s : State} {m : MethodId} {args : Array Value} {below : List Frame} {meth : Method} {c : Code} {own : String} {cc : ByteArray} {nL : Nat} {ini : Bool} {D : va_G} {cA : Nat → ClassId} {fv : Value} {A : Nat → Prop} {ad0 : Nat → Nat} {d : Nat} {Q : State → Prop} {rr : zR} {M0 : zM} {rt : Option FieldType} {sc : Option (Nat × (Nat → Int32))} {cal : zC} {k : zK}
    (C : zCx p R s m args meth c own cc nL ini D cA fv A ad0 d) (hk : ∀ pc' ls' st' M', k pc' ls' st' M' = some rr → zW p l e R s m args below meth c Q D cA fv A ad0 M0 nL pc' ls' st' M') {pc nxt : Nat} {aux : List Nat} {ld : Option (List Nat)} {ls : zLs} {st : List Value} {M : zM} {i : Nat} {n : Int} 
    (hok : zOk own cc nL rt ini (pc, .iinc i n, nxt, aux, ld) = true) (h : stp sc cal (pc, .iinc i n, nxt, aux, ld) ls st M k = some rr) : zW p l e R s m args below meth c Q D cA fv A ad0 M0 nL pc ls st M := by
  obtain ⟨hx, hb, hml, hown, hts, hK, hA, hini, hX, hfv, hfr, hlo⟩ := C
  obtain ⟨x, hz, h⟩ := lI_some h
  obtain ⟨hdg, rfl, hi⟩ := zchk_of2 hok
  have hi := of_decide_eq_true hi
  have hf1 : fv.category = 1 := by rcases hfv with rfl | ⟨t, rfl⟩ <;> rfl
  intro ad H locs L had hn1 hn2 hwf hP hD hS hl
  obtain ⟨kk, hkk⟩ := List.mem_iff_getElem?.mp (List.mem_map.mpr ⟨(i, .int x), zl_mem hz, rfl⟩ : (i, Value.int x) ∈ ls.map (zq fv ad))
  refine lv_iinc (v := x + Int32.ofInt n) hx hb hdg hl hkk rfl hi (zs1_map hf1 ls i (.int (x + Int32.ofInt n))) (fun L hl => ?_)
  exact hk _ _ _ _ h ad H locs L had hn1 hn2 hwf hP hD hS hl
theorem ss_iconst {p : Program} {l : Launch} {e : Env} {R : Room} {s : State} {m : MethodId} {args : Array Value} {below : List Frame} {meth : Method} {c : Code} {own : String} {cc : ByteArray} {nL : Nat} {ini : Bool} {D : va_G} {cA : Nat → ClassId} {fv : Value} {A : Nat → Prop} {ad0 : Nat → Nat} {d : Nat} {Q : State → Prop} {rr : zR} {M0 : zM} {rt : Option FieldType} {sc : Option (Nat × (Nat → Int32))} {cal : zC} {k : zK}
    (C : zCx p R s m args meth c own cc nL ini D cA fv A ad0 d) (hk : ∀ pc' ls' st' M', k pc' ls' st' M' = some rr → zW p l e R s m args below meth c Q D cA fv A ad0 M0 nL pc' ls' st' M') {pc nxt : Nat} {aux : List Nat} {ld : Option (List Nat)} {ls : zLs} {st : List Value} {M : zM} {n : Int} 
    (hok : zOk own cc nL rt ini (pc, .iconst n, nxt, aux, ld) = true) (h : stp sc cal (pc, .iconst n, nxt, aux, ld) ls st M k = some rr) : zW p l e R s m args below meth c Q D cA fv A ad0 M0 nL pc ls st M := by
  obtain ⟨hx, hb, hml, hown, hts, hK, hA, hini, hX, hfv, hfr, hlo⟩ := C
  obtain ⟨hdg, rfl⟩ := zchk_of hok
  intro ad H locs L had hn1 hn2 hwf hP hD hS hl
  refine lv_iconst hx hb hdg rfl ?_
  exact hk _ _ _ _ h ad H locs L had hn1 hn2 hwf hP hD hS hl
theorem ss_bipush {p : Program} {l : Launch} {e : Env} {R : Room} {s : State} {m : MethodId} {args : Array Value} {below : List Frame} {meth : Method} {c : Code} {own : String} {cc : ByteArray} {nL : Nat} {ini : Bool} {D : va_G} {cA : Nat → ClassId} {fv : Value} {A : Nat → Prop} {ad0 : Nat → Nat} {d : Nat} {Q : State → Prop} {rr : zR} {M0 : zM} {rt : Option FieldType} {sc : Option (Nat × (Nat → Int32))} {cal : zC} {k : zK}
    (C : zCx p R s m args meth c own cc nL ini D cA fv A ad0 d) (hk : ∀ pc' ls' st' M', k pc' ls' st' M' = some rr → zW p l e R s m args below meth c Q D cA fv A ad0 M0 nL pc' ls' st' M') {pc nxt : Nat} {aux : List Nat} {ld : Option (List Nat)} {ls : zLs} {st : List Value} {M : zM} {n : Int} 
    (hok : zOk own cc nL rt ini (pc, .bipush n, nxt, aux, ld) = true) (h : stp sc cal (pc, .bipush n, nxt, aux, ld) ls st M k = some rr) : zW p l e R s m args below meth c Q D cA fv A ad0 M0 nL pc ls st M := by
  obtain ⟨hx, hb, hml, hown, hts, hK, hA, hini, hX, hfv, hfr, hlo⟩ := C
  obtain ⟨hdg, rfl⟩ := zchk_of hok
  intro ad H locs L had hn1 hn2 hwf hP hD hS hl
  refine lv_bipush hx hb hdg rfl ?_
  exact hk _ _ _ _ h ad H locs L had hn1 hn2 hwf hP hD hS hl
theorem ss_sipush {p : Program} {l : Launch} {e : Env} {R : Room} {s : State} {m : MethodId} {args : Array Value} {below : List Frame} {meth : Method} {c : Code} {own : String} {cc : ByteArray} {nL : Nat} {ini : Bool} {D : va_G} {cA : Nat → ClassId} {fv : Value} {A : Nat → Prop} {ad0 : Nat → Nat} {d : Nat} {Q : State → Prop} {rr : zR} {M0 : zM} {rt : Option FieldType} {sc : Option (Nat × (Nat → Int32))} {cal : zC} {k : zK}
    (C : zCx p R s m args meth c own cc nL ini D cA fv A ad0 d) (hk : ∀ pc' ls' st' M', k pc' ls' st' M' = some rr → zW p l e R s m args below meth c Q D cA fv A ad0 M0 nL pc' ls' st' M') {pc nxt : Nat} {aux : List Nat} {ld : Option (List Nat)} {ls : zLs} {st : List Value} {M : zM} {n : Int} 
    (hok : zOk own cc nL rt ini (pc, .sipush n, nxt, aux, ld) = true) (h : stp sc cal (pc, .sipush n, nxt, aux, ld) ls st M k = some rr) : zW p l e R s m args below meth c Q D cA fv A ad0 M0 nL pc ls st M := by
  obtain ⟨hx, hb, hml, hown, hts, hK, hA, hini, hX, hfv, hfr, hlo⟩ := C
  obtain ⟨hdg, rfl⟩ := zchk_of hok
  intro ad H locs L had hn1 hn2 hwf hP hD hS hl
  refine lv_sipush hx hb hdg rfl ?_
  exact hk _ _ _ _ h ad H locs L had hn1 hn2 hwf hP hD hS hl
theorem ss_lconst {p : Program} {l : Launch} {e : Env} {R : Room} {s : State} {m : MethodId} {args : Array Value} {below : List Frame} {meth : Method} {c : Code} {own : String} {cc : ByteArray} {nL : Nat} {ini : Bool} {D : va_G} {cA : Nat → ClassId} {fv : Value} {A : Nat → Prop} {ad0 : Nat → Nat} {d : Nat} {Q : State → Prop} {rr : zR} {M0 : zM} {rt : Option FieldType} {sc : Option (Nat × (Nat → Int32))} {cal : zC} {k : zK}
    (C : zCx p R s m args meth c own cc nL ini D cA fv A ad0 d) (hk : ∀ pc' ls' st' M', k pc' ls' st' M' = some rr → zW p l e R s m args below meth c Q D cA fv A ad0 M0 nL pc' ls' st' M') {pc nxt : Nat} {aux : List Nat} {ld : Option (List Nat)} {ls : zLs} {st : List Value} {M : zM} {n : Fin 2} 
    (hok : zOk own cc nL rt ini (pc, .lconst n, nxt, aux, ld) = true) (h : stp sc cal (pc, .lconst n, nxt, aux, ld) ls st M k = some rr) : zW p l e R s m args below meth c Q D cA fv A ad0 M0 nL pc ls st M := by
  obtain ⟨hx, hb, hml, hown, hts, hK, hA, hini, hX, hfv, hfr, hlo⟩ := C
  obtain ⟨hdg, rfl⟩ := zchk_of hok
  intro ad H locs L had hn1 hn2 hwf hP hD hS hl
  refine lv_lconst hx hb hdg rfl ?_
  exact hk _ _ _ _ h ad H locs L had hn1 hn2 hwf hP hD hS hl
theorem ss_iadd {p : Program} {l : Launch} {e : Env} {R : Room} {s : State} {m : MethodId} {args : Array Value} {below : List Frame} {meth : Method} {c : Code} {own : String} {cc : ByteArray} {nL : Nat} {ini : Bool} {D : va_G} {cA : Nat → ClassId} {fv : Value} {A : Nat → Prop} {ad0 : Nat → Nat} {d : Nat} {Q : State → Prop} {rr : zR} {M0 : zM} {rt : Option FieldType} {sc : Option (Nat × (Nat → Int32))} {cal : zC} {k : zK}
    (C : zCx p R s m args meth c own cc nL ini D cA fv A ad0 d) (hk : ∀ pc' ls' st' M', k pc' ls' st' M' = some rr → zW p l e R s m args below meth c Q D cA fv A ad0 M0 nL pc' ls' st' M') {pc nxt : Nat} {aux : List Nat} {ld : Option (List Nat)} {ls : zLs} {st : List Value} {M : zM} 
    (hok : zOk own cc nL rt ini (pc, .iadd, nxt, aux, ld) = true) (h : stp sc cal (pc, .iadd, nxt, aux, ld) ls st M k = some rr) : zW p l e R s m args below meth c Q D cA fv A ad0 M0 nL pc ls st M := by
  obtain ⟨hx, hb, hml, hown, hts, hK, hA, hini, hX, hfv, hfr, hlo⟩ := C
  obtain ⟨y, st, rfl, h⟩ := pI_some h
  obtain ⟨x, st, rfl, h⟩ := pI_some h
  obtain ⟨hdg, rfl⟩ := zchk_of hok
  intro ad H locs L had hn1 hn2 hwf hP hD hS hl
  refine lv_iadd hx hb hdg ?_
  exact hk _ _ _ _ h ad H locs L had hn1 hn2 hwf hP hD hS hl
theorem ss_isub {p : Program} {l : Launch} {e : Env} {R : Room} {s : State} {m : MethodId} {args : Array Value} {below : List Frame} {meth : Method} {c : Code} {own : String} {cc : ByteArray} {nL : Nat} {ini : Bool} {D : va_G} {cA : Nat → ClassId} {fv : Value} {A : Nat → Prop} {ad0 : Nat → Nat} {d : Nat} {Q : State → Prop} {rr : zR} {M0 : zM} {rt : Option FieldType} {sc : Option (Nat × (Nat → Int32))} {cal : zC} {k : zK}
    (C : zCx p R s m args meth c own cc nL ini D cA fv A ad0 d) (hk : ∀ pc' ls' st' M', k pc' ls' st' M' = some rr → zW p l e R s m args below meth c Q D cA fv A ad0 M0 nL pc' ls' st' M') {pc nxt : Nat} {aux : List Nat} {ld : Option (List Nat)} {ls : zLs} {st : List Value} {M : zM} 
    (hok : zOk own cc nL rt ini (pc, .isub, nxt, aux, ld) = true) (h : stp sc cal (pc, .isub, nxt, aux, ld) ls st M k = some rr) : zW p l e R s m args below meth c Q D cA fv A ad0 M0 nL pc ls st M := by
  obtain ⟨hx, hb, hml, hown, hts, hK, hA, hini, hX, hfv, hfr, hlo⟩ := C
  obtain ⟨y, st, rfl, h⟩ := pI_some h
  obtain ⟨x, st, rfl, h⟩ := pI_some h
  obtain ⟨hdg, rfl⟩ := zchk_of hok
  intro ad H locs L had hn1 hn2 hwf hP hD hS hl
  refine lv_isub hx hb hdg ?_
  exact hk _ _ _ _ h ad H locs L had hn1 hn2 hwf hP hD hS hl
theorem ss_imul {p : Program} {l : Launch} {e : Env} {R : Room} {s : State} {m : MethodId} {args : Array Value} {below : List Frame} {meth : Method} {c : Code} {own : String} {cc : ByteArray} {nL : Nat} {ini : Bool} {D : va_G} {cA : Nat → ClassId} {fv : Value} {A : Nat → Prop} {ad0 : Nat → Nat} {d : Nat} {Q : State → Prop} {rr : zR} {M0 : zM} {rt : Option FieldType} {sc : Option (Nat × (Nat → Int32))} {cal : zC} {k : zK}
    (C : zCx p R s m args meth c own cc nL ini D cA fv A ad0 d) (hk : ∀ pc' ls' st' M', k pc' ls' st' M' = some rr → zW p l e R s m args below meth c Q D cA fv A ad0 M0 nL pc' ls' st' M') {pc nxt : Nat} {aux : List Nat} {ld : Option (List Nat)} {ls : zLs} {st : List Value} {M : zM} 
    (hok : zOk own cc nL rt ini (pc, .imul, nxt, aux, ld) = true) (h : stp sc cal (pc, .imul, nxt, aux, ld) ls st M k = some rr) : zW p l e R s m args below meth c Q D cA fv A ad0 M0 nL pc ls st M := by
  obtain ⟨hx, hb, hml, hown, hts, hK, hA, hini, hX, hfv, hfr, hlo⟩ := C
  obtain ⟨y, st, rfl, h⟩ := pI_some h
  obtain ⟨x, st, rfl, h⟩ := pI_some h
  obtain ⟨hdg, rfl⟩ := zchk_of hok
  intro ad H locs L had hn1 hn2 hwf hP hD hS hl
  refine lv_imul hx hb hdg ?_
  exact hk _ _ _ _ h ad H locs L had hn1 hn2 hwf hP hD hS hl
theorem ss_iand {p : Program} {l : Launch} {e : Env} {R : Room} {s : State} {m : MethodId} {args : Array Value} {below : List Frame} {meth : Method} {c : Code} {own : String} {cc : ByteArray} {nL : Nat} {ini : Bool} {D : va_G} {cA : Nat → ClassId} {fv : Value} {A : Nat → Prop} {ad0 : Nat → Nat} {d : Nat} {Q : State → Prop} {rr : zR} {M0 : zM} {rt : Option FieldType} {sc : Option (Nat × (Nat → Int32))} {cal : zC} {k : zK}
    (C : zCx p R s m args meth c own cc nL ini D cA fv A ad0 d) (hk : ∀ pc' ls' st' M', k pc' ls' st' M' = some rr → zW p l e R s m args below meth c Q D cA fv A ad0 M0 nL pc' ls' st' M') {pc nxt : Nat} {aux : List Nat} {ld : Option (List Nat)} {ls : zLs} {st : List Value} {M : zM} 
    (hok : zOk own cc nL rt ini (pc, .iand, nxt, aux, ld) = true) (h : stp sc cal (pc, .iand, nxt, aux, ld) ls st M k = some rr) : zW p l e R s m args below meth c Q D cA fv A ad0 M0 nL pc ls st M := by
  obtain ⟨hx, hb, hml, hown, hts, hK, hA, hini, hX, hfv, hfr, hlo⟩ := C
  obtain ⟨y, st, rfl, h⟩ := pI_some h
  obtain ⟨x, st, rfl, h⟩ := pI_some h
  obtain ⟨hdg, rfl⟩ := zchk_of hok
  intro ad H locs L had hn1 hn2 hwf hP hD hS hl
  refine lv_iand hx hb hdg ?_
  exact hk _ _ _ _ h ad H locs L had hn1 hn2 hwf hP hD hS hl
theorem ss_ior {p : Program} {l : Launch} {e : Env} {R : Room} {s : State} {m : MethodId} {args : Array Value} {below : List Frame} {meth : Method} {c : Code} {own : String} {cc : ByteArray} {nL : Nat} {ini : Bool} {D : va_G} {cA : Nat → ClassId} {fv : Value} {A : Nat → Prop} {ad0 : Nat → Nat} {d : Nat} {Q : State → Prop} {rr : zR} {M0 : zM} {rt : Option FieldType} {sc : Option (Nat × (Nat → Int32))} {cal : zC} {k : zK}
    (C : zCx p R s m args meth c own cc nL ini D cA fv A ad0 d) (hk : ∀ pc' ls' st' M', k pc' ls' st' M' = some rr → zW p l e R s m args below meth c Q D cA fv A ad0 M0 nL pc' ls' st' M') {pc nxt : Nat} {aux : List Nat} {ld : Option (List Nat)} {ls : zLs} {st : List Value} {M : zM} 
    (hok : zOk own cc nL rt ini (pc, .ior, nxt, aux, ld) = true) (h : stp sc cal (pc, .ior, nxt, aux, ld) ls st M k = some rr) : zW p l e R s m args below meth c Q D cA fv A ad0 M0 nL pc ls st M := by
  obtain ⟨hx, hb, hml, hown, hts, hK, hA, hini, hX, hfv, hfr, hlo⟩ := C
  obtain ⟨y, st, rfl, h⟩ := pI_some h
  obtain ⟨x, st, rfl, h⟩ := pI_some h
  obtain ⟨hdg, rfl⟩ := zchk_of hok
  intro ad H locs L had hn1 hn2 hwf hP hD hS hl
  refine lv_ior hx hb hdg ?_
  exact hk _ _ _ _ h ad H locs L had hn1 hn2 hwf hP hD hS hl
theorem ss_ixor {p : Program} {l : Launch} {e : Env} {R : Room} {s : State} {m : MethodId} {args : Array Value} {below : List Frame} {meth : Method} {c : Code} {own : String} {cc : ByteArray} {nL : Nat} {ini : Bool} {D : va_G} {cA : Nat → ClassId} {fv : Value} {A : Nat → Prop} {ad0 : Nat → Nat} {d : Nat} {Q : State → Prop} {rr : zR} {M0 : zM} {rt : Option FieldType} {sc : Option (Nat × (Nat → Int32))} {cal : zC} {k : zK}
    (C : zCx p R s m args meth c own cc nL ini D cA fv A ad0 d) (hk : ∀ pc' ls' st' M', k pc' ls' st' M' = some rr → zW p l e R s m args below meth c Q D cA fv A ad0 M0 nL pc' ls' st' M') {pc nxt : Nat} {aux : List Nat} {ld : Option (List Nat)} {ls : zLs} {st : List Value} {M : zM} 
    (hok : zOk own cc nL rt ini (pc, .ixor, nxt, aux, ld) = true) (h : stp sc cal (pc, .ixor, nxt, aux, ld) ls st M k = some rr) : zW p l e R s m args below meth c Q D cA fv A ad0 M0 nL pc ls st M := by
  obtain ⟨hx, hb, hml, hown, hts, hK, hA, hini, hX, hfv, hfr, hlo⟩ := C
  obtain ⟨y, st, rfl, h⟩ := pI_some h
  obtain ⟨x, st, rfl, h⟩ := pI_some h
  obtain ⟨hdg, rfl⟩ := zchk_of hok
  intro ad H locs L had hn1 hn2 hwf hP hD hS hl
  refine lv_ixor hx hb hdg ?_
  exact hk _ _ _ _ h ad H locs L had hn1 hn2 hwf hP hD hS hl
theorem ss_ishl {p : Program} {l : Launch} {e : Env} {R : Room} {s : State} {m : MethodId} {args : Array Value} {below : List Frame} {meth : Method} {c : Code} {own : String} {cc : ByteArray} {nL : Nat} {ini : Bool} {D : va_G} {cA : Nat → ClassId} {fv : Value} {A : Nat → Prop} {ad0 : Nat → Nat} {d : Nat} {Q : State → Prop} {rr : zR} {M0 : zM} {rt : Option FieldType} {sc : Option (Nat × (Nat → Int32))} {cal : zC} {k : zK}
    (C : zCx p R s m args meth c own cc nL ini D cA fv A ad0 d) (hk : ∀ pc' ls' st' M', k pc' ls' st' M' = some rr → zW p l e R s m args below meth c Q D cA fv A ad0 M0 nL pc' ls' st' M') {pc nxt : Nat} {aux : List Nat} {ld : Option (List Nat)} {ls : zLs} {st : List Value} {M : zM} 
    (hok : zOk own cc nL rt ini (pc, .ishl, nxt, aux, ld) = true) (h : stp sc cal (pc, .ishl, nxt, aux, ld) ls st M k = some rr) : zW p l e R s m args below meth c Q D cA fv A ad0 M0 nL pc ls st M := by
  obtain ⟨hx, hb, hml, hown, hts, hK, hA, hini, hX, hfv, hfr, hlo⟩ := C
  obtain ⟨y, st, rfl, h⟩ := pI_some h
  obtain ⟨x, st, rfl, h⟩ := pI_some h
  obtain ⟨hdg, rfl⟩ := zchk_of hok
  intro ad H locs L had hn1 hn2 hwf hP hD hS hl
  refine lv_ishl hx hb hdg ?_
  exact hk _ _ _ _ h ad H locs L had hn1 hn2 hwf hP hD hS hl
theorem ss_ishr {p : Program} {l : Launch} {e : Env} {R : Room} {s : State} {m : MethodId} {args : Array Value} {below : List Frame} {meth : Method} {c : Code} {own : String} {cc : ByteArray} {nL : Nat} {ini : Bool} {D : va_G} {cA : Nat → ClassId} {fv : Value} {A : Nat → Prop} {ad0 : Nat → Nat} {d : Nat} {Q : State → Prop} {rr : zR} {M0 : zM} {rt : Option FieldType} {sc : Option (Nat × (Nat → Int32))} {cal : zC} {k : zK}
    (C : zCx p R s m args meth c own cc nL ini D cA fv A ad0 d) (hk : ∀ pc' ls' st' M', k pc' ls' st' M' = some rr → zW p l e R s m args below meth c Q D cA fv A ad0 M0 nL pc' ls' st' M') {pc nxt : Nat} {aux : List Nat} {ld : Option (List Nat)} {ls : zLs} {st : List Value} {M : zM} 
    (hok : zOk own cc nL rt ini (pc, .ishr, nxt, aux, ld) = true) (h : stp sc cal (pc, .ishr, nxt, aux, ld) ls st M k = some rr) : zW p l e R s m args below meth c Q D cA fv A ad0 M0 nL pc ls st M := by
  obtain ⟨hx, hb, hml, hown, hts, hK, hA, hini, hX, hfv, hfr, hlo⟩ := C
  obtain ⟨y, st, rfl, h⟩ := pI_some h
  obtain ⟨x, st, rfl, h⟩ := pI_some h
  obtain ⟨hdg, rfl⟩ := zchk_of hok
  intro ad H locs L had hn1 hn2 hwf hP hD hS hl
  refine lv_ishr hx hb hdg ?_
  exact hk _ _ _ _ h ad H locs L had hn1 hn2 hwf hP hD hS hl
theorem ss_iushr {p : Program} {l : Launch} {e : Env} {R : Room} {s : State} {m : MethodId} {args : Array Value} {below : List Frame} {meth : Method} {c : Code} {own : String} {cc : ByteArray} {nL : Nat} {ini : Bool} {D : va_G} {cA : Nat → ClassId} {fv : Value} {A : Nat → Prop} {ad0 : Nat → Nat} {d : Nat} {Q : State → Prop} {rr : zR} {M0 : zM} {rt : Option FieldType} {sc : Option (Nat × (Nat → Int32))} {cal : zC} {k : zK}
    (C : zCx p R s m args meth c own cc nL ini D cA fv A ad0 d) (hk : ∀ pc' ls' st' M', k pc' ls' st' M' = some rr → zW p l e R s m args below meth c Q D cA fv A ad0 M0 nL pc' ls' st' M') {pc nxt : Nat} {aux : List Nat} {ld : Option (List Nat)} {ls : zLs} {st : List Value} {M : zM} 
    (hok : zOk own cc nL rt ini (pc, .iushr, nxt, aux, ld) = true) (h : stp sc cal (pc, .iushr, nxt, aux, ld) ls st M k = some rr) : zW p l e R s m args below meth c Q D cA fv A ad0 M0 nL pc ls st M := by
  obtain ⟨hx, hb, hml, hown, hts, hK, hA, hini, hX, hfv, hfr, hlo⟩ := C
  obtain ⟨y, st, rfl, h⟩ := pI_some h
  obtain ⟨x, st, rfl, h⟩ := pI_some h
  obtain ⟨hdg, rfl⟩ := zchk_of hok
  intro ad H locs L had hn1 hn2 hwf hP hD hS hl
  refine lv_iushr (v := (x.toUInt32 >>> (y.toUInt32 &&& 31)).toInt32) hx hb hdg rfl ?_
  exact hk _ _ _ _ h ad H locs L had hn1 hn2 hwf hP hD hS hl
theorem ss_idiv {p : Program} {l : Launch} {e : Env} {R : Room} {s : State} {m : MethodId} {args : Array Value} {below : List Frame} {meth : Method} {c : Code} {own : String} {cc : ByteArray} {nL : Nat} {ini : Bool} {D : va_G} {cA : Nat → ClassId} {fv : Value} {A : Nat → Prop} {ad0 : Nat → Nat} {d : Nat} {Q : State → Prop} {rr : zR} {M0 : zM} {rt : Option FieldType} {sc : Option (Nat × (Nat → Int32))} {cal : zC} {k : zK}
    (C : zCx p R s m args meth c own cc nL ini D cA fv A ad0 d) (hk : ∀ pc' ls' st' M', k pc' ls' st' M' = some rr → zW p l e R s m args below meth c Q D cA fv A ad0 M0 nL pc' ls' st' M') {pc nxt : Nat} {aux : List Nat} {ld : Option (List Nat)} {ls : zLs} {st : List Value} {M : zM} 
    (hok : zOk own cc nL rt ini (pc, .idiv, nxt, aux, ld) = true) (h : stp sc cal (pc, .idiv, nxt, aux, ld) ls st M k = some rr) : zW p l e R s m args below meth c Q D cA fv A ad0 M0 nL pc ls st M := by
  obtain ⟨hx, hb, hml, hown, hts, hK, hA, hini, hX, hfv, hfr, hlo⟩ := C
  obtain ⟨y, st, rfl, h1⟩ := pI_some h
  obtain ⟨x, st, rfl, h2⟩ := pI_some h1
  obtain ⟨hdg, rfl⟩ := zchk_of hok
  clear h h1
  have hne : ¬ y = 0 := fun q => by rw [if_pos q] at h2; cases h2
  rw [if_neg hne] at h2
  intro ad H locs L had hn1 hn2 hwf hP hD hS hl
  refine lv_idiv hx hb hdg hne ?_
  exact hk _ _ _ _ h2 ad H locs L had hn1 hn2 hwf hP hD hS hl
theorem ss_irem {p : Program} {l : Launch} {e : Env} {R : Room} {s : State} {m : MethodId} {args : Array Value} {below : List Frame} {meth : Method} {c : Code} {own : String} {cc : ByteArray} {nL : Nat} {ini : Bool} {D : va_G} {cA : Nat → ClassId} {fv : Value} {A : Nat → Prop} {ad0 : Nat → Nat} {d : Nat} {Q : State → Prop} {rr : zR} {M0 : zM} {rt : Option FieldType} {sc : Option (Nat × (Nat → Int32))} {cal : zC} {k : zK}
    (C : zCx p R s m args meth c own cc nL ini D cA fv A ad0 d) (hk : ∀ pc' ls' st' M', k pc' ls' st' M' = some rr → zW p l e R s m args below meth c Q D cA fv A ad0 M0 nL pc' ls' st' M') {pc nxt : Nat} {aux : List Nat} {ld : Option (List Nat)} {ls : zLs} {st : List Value} {M : zM} 
    (hok : zOk own cc nL rt ini (pc, .irem, nxt, aux, ld) = true) (h : stp sc cal (pc, .irem, nxt, aux, ld) ls st M k = some rr) : zW p l e R s m args below meth c Q D cA fv A ad0 M0 nL pc ls st M := by
  obtain ⟨hx, hb, hml, hown, hts, hK, hA, hini, hX, hfv, hfr, hlo⟩ := C
  obtain ⟨y, st, rfl, h1⟩ := pI_some h
  obtain ⟨x, st, rfl, h2⟩ := pI_some h1
  obtain ⟨hdg, rfl⟩ := zchk_of hok
  clear h h1
  have hne : ¬ y = 0 := fun q => by rw [if_pos q] at h2; cases h2
  rw [if_neg hne] at h2
  intro ad H locs L had hn1 hn2 hwf hP hD hS hl
  refine lv_irem hx hb hdg hne ?_
  exact hk _ _ _ _ h2 ad H locs L had hn1 hn2 hwf hP hD hS hl
theorem ss_ineg {p : Program} {l : Launch} {e : Env} {R : Room} {s : State} {m : MethodId} {args : Array Value} {below : List Frame} {meth : Method} {c : Code} {own : String} {cc : ByteArray} {nL : Nat} {ini : Bool} {D : va_G} {cA : Nat → ClassId} {fv : Value} {A : Nat → Prop} {ad0 : Nat → Nat} {d : Nat} {Q : State → Prop} {rr : zR} {M0 : zM} {rt : Option FieldType} {sc : Option (Nat × (Nat → Int32))} {cal : zC} {k : zK}
    (C : zCx p R s m args meth c own cc nL ini D cA fv A ad0 d) (hk : ∀ pc' ls' st' M', k pc' ls' st' M' = some rr → zW p l e R s m args below meth c Q D cA fv A ad0 M0 nL pc' ls' st' M') {pc nxt : Nat} {aux : List Nat} {ld : Option (List Nat)} {ls : zLs} {st : List Value} {M : zM} 
    (hok : zOk own cc nL rt ini (pc, .ineg, nxt, aux, ld) = true) (h : stp sc cal (pc, .ineg, nxt, aux, ld) ls st M k = some rr) : zW p l e R s m args below meth c Q D cA fv A ad0 M0 nL pc ls st M := by
  obtain ⟨hx, hb, hml, hown, hts, hK, hA, hini, hX, hfv, hfr, hlo⟩ := C
  obtain ⟨x, st, rfl, h⟩ := pI_some h
  obtain ⟨hdg, rfl⟩ := zchk_of hok
  intro ad H locs L had hn1 hn2 hwf hP hD hS hl
  refine lv_ineg hx hb hdg ?_
  exact hk _ _ _ _ h ad H locs L had hn1 hn2 hwf hP hD hS hl
theorem ss_i2b {p : Program} {l : Launch} {e : Env} {R : Room} {s : State} {m : MethodId} {args : Array Value} {below : List Frame} {meth : Method} {c : Code} {own : String} {cc : ByteArray} {nL : Nat} {ini : Bool} {D : va_G} {cA : Nat → ClassId} {fv : Value} {A : Nat → Prop} {ad0 : Nat → Nat} {d : Nat} {Q : State → Prop} {rr : zR} {M0 : zM} {rt : Option FieldType} {sc : Option (Nat × (Nat → Int32))} {cal : zC} {k : zK}
    (C : zCx p R s m args meth c own cc nL ini D cA fv A ad0 d) (hk : ∀ pc' ls' st' M', k pc' ls' st' M' = some rr → zW p l e R s m args below meth c Q D cA fv A ad0 M0 nL pc' ls' st' M') {pc nxt : Nat} {aux : List Nat} {ld : Option (List Nat)} {ls : zLs} {st : List Value} {M : zM} 
    (hok : zOk own cc nL rt ini (pc, .i2b, nxt, aux, ld) = true) (h : stp sc cal (pc, .i2b, nxt, aux, ld) ls st M k = some rr) : zW p l e R s m args below meth c Q D cA fv A ad0 M0 nL pc ls st M := by
  obtain ⟨hx, hb, hml, hown, hts, hK, hA, hini, hX, hfv, hfr, hlo⟩ := C
  obtain ⟨x, st, rfl, h⟩ := pI_some h
  obtain ⟨hdg, rfl⟩ := zchk_of hok
  intro ad H locs L had hn1 hn2 hwf hP hD hS hl
  refine lv_i2b hx hb hdg rfl ?_
  exact hk _ _ _ _ h ad H locs L had hn1 hn2 hwf hP hD hS hl
theorem ss_i2c {p : Program} {l : Launch} {e : Env} {R : Room} {s : State} {m : MethodId} {args : Array Value} {below : List Frame} {meth : Method} {c : Code} {own : String} {cc : ByteArray} {nL : Nat} {ini : Bool} {D : va_G} {cA : Nat → ClassId} {fv : Value} {A : Nat → Prop} {ad0 : Nat → Nat} {d : Nat} {Q : State → Prop} {rr : zR} {M0 : zM} {rt : Option FieldType} {sc : Option (Nat × (Nat → Int32))} {cal : zC} {k : zK}
    (C : zCx p R s m args meth c own cc nL ini D cA fv A ad0 d) (hk : ∀ pc' ls' st' M', k pc' ls' st' M' = some rr → zW p l e R s m args below meth c Q D cA fv A ad0 M0 nL pc' ls' st' M') {pc nxt : Nat} {aux : List Nat} {ld : Option (List Nat)} {ls : zLs} {st : List Value} {M : zM} 
    (hok : zOk own cc nL rt ini (pc, .i2c, nxt, aux, ld) = true) (h : stp sc cal (pc, .i2c, nxt, aux, ld) ls st M k = some rr) : zW p l e R s m args below meth c Q D cA fv A ad0 M0 nL pc ls st M := by
  obtain ⟨hx, hb, hml, hown, hts, hK, hA, hini, hX, hfv, hfr, hlo⟩ := C
  obtain ⟨x, st, rfl, h⟩ := pI_some h
  obtain ⟨hdg, rfl⟩ := zchk_of hok
  intro ad H locs L had hn1 hn2 hwf hP hD hS hl
  refine lv_i2c hx hb hdg rfl ?_
  exact hk _ _ _ _ h ad H locs L had hn1 hn2 hwf hP hD hS hl
theorem ss_i2l {p : Program} {l : Launch} {e : Env} {R : Room} {s : State} {m : MethodId} {args : Array Value} {below : List Frame} {meth : Method} {c : Code} {own : String} {cc : ByteArray} {nL : Nat} {ini : Bool} {D : va_G} {cA : Nat → ClassId} {fv : Value} {A : Nat → Prop} {ad0 : Nat → Nat} {d : Nat} {Q : State → Prop} {rr : zR} {M0 : zM} {rt : Option FieldType} {sc : Option (Nat × (Nat → Int32))} {cal : zC} {k : zK}
    (C : zCx p R s m args meth c own cc nL ini D cA fv A ad0 d) (hk : ∀ pc' ls' st' M', k pc' ls' st' M' = some rr → zW p l e R s m args below meth c Q D cA fv A ad0 M0 nL pc' ls' st' M') {pc nxt : Nat} {aux : List Nat} {ld : Option (List Nat)} {ls : zLs} {st : List Value} {M : zM} 
    (hok : zOk own cc nL rt ini (pc, .i2l, nxt, aux, ld) = true) (h : stp sc cal (pc, .i2l, nxt, aux, ld) ls st M k = some rr) : zW p l e R s m args below meth c Q D cA fv A ad0 M0 nL pc ls st M := by
  obtain ⟨hx, hb, hml, hown, hts, hK, hA, hini, hX, hfv, hfr, hlo⟩ := C
  obtain ⟨x, st, rfl, h⟩ := pI_some h
  obtain ⟨hdg, rfl⟩ := zchk_of hok
  intro ad H locs L had hn1 hn2 hwf hP hD hS hl
  refine lv_i2l hx hb hdg rfl ?_
  exact hk _ _ _ _ h ad H locs L had hn1 hn2 hwf hP hD hS hl
theorem ss_l2i {p : Program} {l : Launch} {e : Env} {R : Room} {s : State} {m : MethodId} {args : Array Value} {below : List Frame} {meth : Method} {c : Code} {own : String} {cc : ByteArray} {nL : Nat} {ini : Bool} {D : va_G} {cA : Nat → ClassId} {fv : Value} {A : Nat → Prop} {ad0 : Nat → Nat} {d : Nat} {Q : State → Prop} {rr : zR} {M0 : zM} {rt : Option FieldType} {sc : Option (Nat × (Nat → Int32))} {cal : zC} {k : zK}
    (C : zCx p R s m args meth c own cc nL ini D cA fv A ad0 d) (hk : ∀ pc' ls' st' M', k pc' ls' st' M' = some rr → zW p l e R s m args below meth c Q D cA fv A ad0 M0 nL pc' ls' st' M') {pc nxt : Nat} {aux : List Nat} {ld : Option (List Nat)} {ls : zLs} {st : List Value} {M : zM} 
    (hok : zOk own cc nL rt ini (pc, .l2i, nxt, aux, ld) = true) (h : stp sc cal (pc, .l2i, nxt, aux, ld) ls st M k = some rr) : zW p l e R s m args below meth c Q D cA fv A ad0 M0 nL pc ls st M := by
  obtain ⟨hx, hb, hml, hown, hts, hK, hA, hini, hX, hfv, hfr, hlo⟩ := C
  obtain ⟨x, st, rfl, h⟩ := pL_some h
  obtain ⟨hdg, rfl⟩ := zchk_of hok
  intro ad H locs L had hn1 hn2 hwf hP hD hS hl
  refine lv_l2i hx hb hdg rfl ?_
  exact hk _ _ _ _ h ad H locs L had hn1 hn2 hwf hP hD hS hl
theorem ss_ladd {p : Program} {l : Launch} {e : Env} {R : Room} {s : State} {m : MethodId} {args : Array Value} {below : List Frame} {meth : Method} {c : Code} {own : String} {cc : ByteArray} {nL : Nat} {ini : Bool} {D : va_G} {cA : Nat → ClassId} {fv : Value} {A : Nat → Prop} {ad0 : Nat → Nat} {d : Nat} {Q : State → Prop} {rr : zR} {M0 : zM} {rt : Option FieldType} {sc : Option (Nat × (Nat → Int32))} {cal : zC} {k : zK}
    (C : zCx p R s m args meth c own cc nL ini D cA fv A ad0 d) (hk : ∀ pc' ls' st' M', k pc' ls' st' M' = some rr → zW p l e R s m args below meth c Q D cA fv A ad0 M0 nL pc' ls' st' M') {pc nxt : Nat} {aux : List Nat} {ld : Option (List Nat)} {ls : zLs} {st : List Value} {M : zM} 
    (hok : zOk own cc nL rt ini (pc, .ladd, nxt, aux, ld) = true) (h : stp sc cal (pc, .ladd, nxt, aux, ld) ls st M k = some rr) : zW p l e R s m args below meth c Q D cA fv A ad0 M0 nL pc ls st M := by
  obtain ⟨hx, hb, hml, hown, hts, hK, hA, hini, hX, hfv, hfr, hlo⟩ := C
  obtain ⟨y, st, rfl, h⟩ := pL_some h
  obtain ⟨x, st, rfl, h⟩ := pL_some h
  obtain ⟨hdg, rfl⟩ := zchk_of hok
  intro ad H locs L had hn1 hn2 hwf hP hD hS hl
  refine lv_ladd hx hb hdg ?_
  exact hk _ _ _ _ h ad H locs L had hn1 hn2 hwf hP hD hS hl
theorem ss_lmul {p : Program} {l : Launch} {e : Env} {R : Room} {s : State} {m : MethodId} {args : Array Value} {below : List Frame} {meth : Method} {c : Code} {own : String} {cc : ByteArray} {nL : Nat} {ini : Bool} {D : va_G} {cA : Nat → ClassId} {fv : Value} {A : Nat → Prop} {ad0 : Nat → Nat} {d : Nat} {Q : State → Prop} {rr : zR} {M0 : zM} {rt : Option FieldType} {sc : Option (Nat × (Nat → Int32))} {cal : zC} {k : zK}
    (C : zCx p R s m args meth c own cc nL ini D cA fv A ad0 d) (hk : ∀ pc' ls' st' M', k pc' ls' st' M' = some rr → zW p l e R s m args below meth c Q D cA fv A ad0 M0 nL pc' ls' st' M') {pc nxt : Nat} {aux : List Nat} {ld : Option (List Nat)} {ls : zLs} {st : List Value} {M : zM} 
    (hok : zOk own cc nL rt ini (pc, .lmul, nxt, aux, ld) = true) (h : stp sc cal (pc, .lmul, nxt, aux, ld) ls st M k = some rr) : zW p l e R s m args below meth c Q D cA fv A ad0 M0 nL pc ls st M := by
  obtain ⟨hx, hb, hml, hown, hts, hK, hA, hini, hX, hfv, hfr, hlo⟩ := C
  obtain ⟨y, st, rfl, h⟩ := pL_some h
  obtain ⟨x, st, rfl, h⟩ := pL_some h
  obtain ⟨hdg, rfl⟩ := zchk_of hok
  intro ad H locs L had hn1 hn2 hwf hP hD hS hl
  refine lv_lmul hx hb hdg ?_
  exact hk _ _ _ _ h ad H locs L had hn1 hn2 hwf hP hD hS hl
theorem ss_lcmp {p : Program} {l : Launch} {e : Env} {R : Room} {s : State} {m : MethodId} {args : Array Value} {below : List Frame} {meth : Method} {c : Code} {own : String} {cc : ByteArray} {nL : Nat} {ini : Bool} {D : va_G} {cA : Nat → ClassId} {fv : Value} {A : Nat → Prop} {ad0 : Nat → Nat} {d : Nat} {Q : State → Prop} {rr : zR} {M0 : zM} {rt : Option FieldType} {sc : Option (Nat × (Nat → Int32))} {cal : zC} {k : zK}
    (C : zCx p R s m args meth c own cc nL ini D cA fv A ad0 d) (hk : ∀ pc' ls' st' M', k pc' ls' st' M' = some rr → zW p l e R s m args below meth c Q D cA fv A ad0 M0 nL pc' ls' st' M') {pc nxt : Nat} {aux : List Nat} {ld : Option (List Nat)} {ls : zLs} {st : List Value} {M : zM} 
    (hok : zOk own cc nL rt ini (pc, .lcmp, nxt, aux, ld) = true) (h : stp sc cal (pc, .lcmp, nxt, aux, ld) ls st M k = some rr) : zW p l e R s m args below meth c Q D cA fv A ad0 M0 nL pc ls st M := by
  obtain ⟨hx, hb, hml, hown, hts, hK, hA, hini, hX, hfv, hfr, hlo⟩ := C
  obtain ⟨y, st, rfl, h⟩ := pL_some h
  obtain ⟨x, st, rfl, h⟩ := pL_some h
  obtain ⟨hdg, rfl⟩ := zchk_of hok
  intro ad H locs L had hn1 hn2 hwf hP hD hS hl
  refine W.lcmp hx hb hdg ?_
  exact hk _ _ _ _ h ad H locs L had hn1 hn2 hwf hP hD hS hl
theorem ss_goto {p : Program} {l : Launch} {e : Env} {R : Room} {s : State} {m : MethodId} {args : Array Value} {below : List Frame} {meth : Method} {c : Code} {own : String} {cc : ByteArray} {nL : Nat} {ini : Bool} {D : va_G} {cA : Nat → ClassId} {fv : Value} {A : Nat → Prop} {ad0 : Nat → Nat} {d : Nat} {Q : State → Prop} {rr : zR} {M0 : zM} {rt : Option FieldType} {sc : Option (Nat × (Nat → Int32))} {cal : zC} {k : zK}
    (C : zCx p R s m args meth c own cc nL ini D cA fv A ad0 d) (hk : ∀ pc' ls' st' M', k pc' ls' st' M' = some rr → zW p l e R s m args below meth c Q D cA fv A ad0 M0 nL pc' ls' st' M') {pc nxt : Nat} {aux : List Nat} {ld : Option (List Nat)} {ls : zLs} {st : List Value} {M : zM} {n : Int} 
    (hok : zOk own cc nL rt ini (pc, .goto n, nxt, aux, ld) = true) (h : stp sc cal (pc, .goto n, nxt, aux, ld) ls st M k = some rr) : zW p l e R s m args below meth c Q D cA fv A ad0 M0 nL pc ls st M := by
  obtain ⟨hx, hb, hml, hown, hts, hK, hA, hini, hX, hfv, hfr, hlo⟩ := C
  have h : k (aux.getD 0 0) ls st M = some rr := h
  obtain ⟨hdg, rfl, hj⟩ := zchk_of2 hok
  have hj := of_decide_eq_true hj
  intro ad H locs L had hn1 hn2 hwf hP hD hS hl
  refine lv_goto hx hb hdg hj ?_
  exact hk _ _ _ _ h ad H locs L had hn1 hn2 hwf hP hD hS hl
theorem ss_ifCond_eq {p : Program} {l : Launch} {e : Env} {R : Room} {s : State} {m : MethodId} {args : Array Value} {below : List Frame} {meth : Method} {c : Code} {own : String} {cc : ByteArray} {nL : Nat} {ini : Bool} {D : va_G} {cA : Nat → ClassId} {fv : Value} {A : Nat → Prop} {ad0 : Nat → Nat} {d : Nat} {Q : State → Prop} {rr : zR} {M0 : zM} {rt : Option FieldType} {sc : Option (Nat × (Nat → Int32))} {cal : zC} {k : zK}
    (C : zCx p R s m args meth c own cc nL ini D cA fv A ad0 d) (hk : ∀ pc' ls' st' M', k pc' ls' st' M' = some rr → zW p l e R s m args below meth c Q D cA fv A ad0 M0 nL pc' ls' st' M') {pc nxt : Nat} {aux : List Nat} {ld : Option (List Nat)} {ls : zLs} {st : List Value} {M : zM} {n : Int} 
    (hok : zOk own cc nL rt ini (pc, .ifCond .eq n, nxt, aux, ld) = true) (h : stp sc cal (pc, .ifCond .eq n, nxt, aux, ld) ls st M k = some rr) : zW p l e R s m args below meth c Q D cA fv A ad0 M0 nL pc ls st M := by
  obtain ⟨hx, hb, hml, hown, hts, hK, hA, hini, hX, hfv, hfr, hlo⟩ := C
  obtain ⟨x, st, rfl, h⟩ := pI_some h
  have h : (if x = 0 then k (aux.getD 0 0) ls st M else k nxt ls st M) = some rr := h
  obtain ⟨hdg, rfl, hj⟩ := zchk_of2 hok
  have hj := of_decide_eq_true hj
  intro ad H locs L had hn1 hn2 hwf hP hD hS hl
  refine lv_if_eq hx hb hdg hj (fun q => by rw [if_pos q] at h; exact hk _ _ _ _ h ad H locs L had hn1 hn2 hwf hP hD hS hl) (fun q => by rw [if_neg q] at h; exact hk _ _ _ _ h ad H locs L had hn1 hn2 hwf hP hD hS hl)
theorem ss_if_icmp_eq {p : Program} {l : Launch} {e : Env} {R : Room} {s : State} {m : MethodId} {args : Array Value} {below : List Frame} {meth : Method} {c : Code} {own : String} {cc : ByteArray} {nL : Nat} {ini : Bool} {D : va_G} {cA : Nat → ClassId} {fv : Value} {A : Nat → Prop} {ad0 : Nat → Nat} {d : Nat} {Q : State → Prop} {rr : zR} {M0 : zM} {rt : Option FieldType} {sc : Option (Nat × (Nat → Int32))} {cal : zC} {k : zK}
    (C : zCx p R s m args meth c own cc nL ini D cA fv A ad0 d) (hk : ∀ pc' ls' st' M', k pc' ls' st' M' = some rr → zW p l e R s m args below meth c Q D cA fv A ad0 M0 nL pc' ls' st' M') {pc nxt : Nat} {aux : List Nat} {ld : Option (List Nat)} {ls : zLs} {st : List Value} {M : zM} {n : Int} 
    (hok : zOk own cc nL rt ini (pc, .if_icmp .eq n, nxt, aux, ld) = true) (h : stp sc cal (pc, .if_icmp .eq n, nxt, aux, ld) ls st M k = some rr) : zW p l e R s m args below meth c Q D cA fv A ad0 M0 nL pc ls st M := by
  obtain ⟨hx, hb, hml, hown, hts, hK, hA, hini, hX, hfv, hfr, hlo⟩ := C
  obtain ⟨y, st, rfl, h⟩ := pI_some h
  obtain ⟨x, st, rfl, h⟩ := pI_some h
  have h : (if x = y then k (aux.getD 0 0) ls st M else k nxt ls st M) = some rr := h
  obtain ⟨hdg, rfl, hj⟩ := zchk_of2 hok
  have hj := of_decide_eq_true hj
  intro ad H locs L had hn1 hn2 hwf hP hD hS hl
  refine lv_icmp_eq hx hb hdg hj (fun q => by rw [if_pos q] at h; exact hk _ _ _ _ h ad H locs L had hn1 hn2 hwf hP hD hS hl) (fun q => by rw [if_neg q] at h; exact hk _ _ _ _ h ad H locs L had hn1 hn2 hwf hP hD hS hl)
theorem ss_ifCond_ne {p : Program} {l : Launch} {e : Env} {R : Room} {s : State} {m : MethodId} {args : Array Value} {below : List Frame} {meth : Method} {c : Code} {own : String} {cc : ByteArray} {nL : Nat} {ini : Bool} {D : va_G} {cA : Nat → ClassId} {fv : Value} {A : Nat → Prop} {ad0 : Nat → Nat} {d : Nat} {Q : State → Prop} {rr : zR} {M0 : zM} {rt : Option FieldType} {sc : Option (Nat × (Nat → Int32))} {cal : zC} {k : zK}
    (C : zCx p R s m args meth c own cc nL ini D cA fv A ad0 d) (hk : ∀ pc' ls' st' M', k pc' ls' st' M' = some rr → zW p l e R s m args below meth c Q D cA fv A ad0 M0 nL pc' ls' st' M') {pc nxt : Nat} {aux : List Nat} {ld : Option (List Nat)} {ls : zLs} {st : List Value} {M : zM} {n : Int} 
    (hok : zOk own cc nL rt ini (pc, .ifCond .ne n, nxt, aux, ld) = true) (h : stp sc cal (pc, .ifCond .ne n, nxt, aux, ld) ls st M k = some rr) : zW p l e R s m args below meth c Q D cA fv A ad0 M0 nL pc ls st M := by
  obtain ⟨hx, hb, hml, hown, hts, hK, hA, hini, hX, hfv, hfr, hlo⟩ := C
  obtain ⟨x, st, rfl, h⟩ := pI_some h
  have h : (if ¬ x = 0 then k (aux.getD 0 0) ls st M else k nxt ls st M) = some rr := h
  obtain ⟨hdg, rfl, hj⟩ := zchk_of2 hok
  have hj := of_decide_eq_true hj
  intro ad H locs L had hn1 hn2 hwf hP hD hS hl
  refine lv_if_ne hx hb hdg hj (fun q => by rw [if_pos q] at h; exact hk _ _ _ _ h ad H locs L had hn1 hn2 hwf hP hD hS hl) (fun q => by rw [if_neg (fun z => z q)] at h; exact hk _ _ _ _ h ad H locs L had hn1 hn2 hwf hP hD hS hl)
theorem ss_if_icmp_ne {p : Program} {l : Launch} {e : Env} {R : Room} {s : State} {m : MethodId} {args : Array Value} {below : List Frame} {meth : Method} {c : Code} {own : String} {cc : ByteArray} {nL : Nat} {ini : Bool} {D : va_G} {cA : Nat → ClassId} {fv : Value} {A : Nat → Prop} {ad0 : Nat → Nat} {d : Nat} {Q : State → Prop} {rr : zR} {M0 : zM} {rt : Option FieldType} {sc : Option (Nat × (Nat → Int32))} {cal : zC} {k : zK}
    (C : zCx p R s m args meth c own cc nL ini D cA fv A ad0 d) (hk : ∀ pc' ls' st' M', k pc' ls' st' M' = some rr → zW p l e R s m args below meth c Q D cA fv A ad0 M0 nL pc' ls' st' M') {pc nxt : Nat} {aux : List Nat} {ld : Option (List Nat)} {ls : zLs} {st : List Value} {M : zM} {n : Int} 
    (hok : zOk own cc nL rt ini (pc, .if_icmp .ne n, nxt, aux, ld) = true) (h : stp sc cal (pc, .if_icmp .ne n, nxt, aux, ld) ls st M k = some rr) : zW p l e R s m args below meth c Q D cA fv A ad0 M0 nL pc ls st M := by
  obtain ⟨hx, hb, hml, hown, hts, hK, hA, hini, hX, hfv, hfr, hlo⟩ := C
  obtain ⟨y, st, rfl, h⟩ := pI_some h
  obtain ⟨x, st, rfl, h⟩ := pI_some h
  have h : (if ¬ x = y then k (aux.getD 0 0) ls st M else k nxt ls st M) = some rr := h
  obtain ⟨hdg, rfl, hj⟩ := zchk_of2 hok
  have hj := of_decide_eq_true hj
  intro ad H locs L had hn1 hn2 hwf hP hD hS hl
  refine lv_icmp_ne hx hb hdg hj (fun q => by rw [if_pos q] at h; exact hk _ _ _ _ h ad H locs L had hn1 hn2 hwf hP hD hS hl) (fun q => by rw [if_neg (fun z => z q)] at h; exact hk _ _ _ _ h ad H locs L had hn1 hn2 hwf hP hD hS hl)
theorem ss_ifCond_lt {p : Program} {l : Launch} {e : Env} {R : Room} {s : State} {m : MethodId} {args : Array Value} {below : List Frame} {meth : Method} {c : Code} {own : String} {cc : ByteArray} {nL : Nat} {ini : Bool} {D : va_G} {cA : Nat → ClassId} {fv : Value} {A : Nat → Prop} {ad0 : Nat → Nat} {d : Nat} {Q : State → Prop} {rr : zR} {M0 : zM} {rt : Option FieldType} {sc : Option (Nat × (Nat → Int32))} {cal : zC} {k : zK}
    (C : zCx p R s m args meth c own cc nL ini D cA fv A ad0 d) (hk : ∀ pc' ls' st' M', k pc' ls' st' M' = some rr → zW p l e R s m args below meth c Q D cA fv A ad0 M0 nL pc' ls' st' M') {pc nxt : Nat} {aux : List Nat} {ld : Option (List Nat)} {ls : zLs} {st : List Value} {M : zM} {n : Int} 
    (hok : zOk own cc nL rt ini (pc, .ifCond .lt n, nxt, aux, ld) = true) (h : stp sc cal (pc, .ifCond .lt n, nxt, aux, ld) ls st M k = some rr) : zW p l e R s m args below meth c Q D cA fv A ad0 M0 nL pc ls st M := by
  obtain ⟨hx, hb, hml, hown, hts, hK, hA, hini, hX, hfv, hfr, hlo⟩ := C
  obtain ⟨x, st, rfl, h⟩ := pI_some h
  have h : (if x < 0 then k (aux.getD 0 0) ls st M else k nxt ls st M) = some rr := h
  obtain ⟨hdg, rfl, hj⟩ := zchk_of2 hok
  have hj := of_decide_eq_true hj
  intro ad H locs L had hn1 hn2 hwf hP hD hS hl
  refine lv_if_lt hx hb hdg hj (fun q => by rw [if_pos q] at h; exact hk _ _ _ _ h ad H locs L had hn1 hn2 hwf hP hD hS hl) (fun q => by rw [if_neg q] at h; exact hk _ _ _ _ h ad H locs L had hn1 hn2 hwf hP hD hS hl)
theorem ss_if_icmp_lt {p : Program} {l : Launch} {e : Env} {R : Room} {s : State} {m : MethodId} {args : Array Value} {below : List Frame} {meth : Method} {c : Code} {own : String} {cc : ByteArray} {nL : Nat} {ini : Bool} {D : va_G} {cA : Nat → ClassId} {fv : Value} {A : Nat → Prop} {ad0 : Nat → Nat} {d : Nat} {Q : State → Prop} {rr : zR} {M0 : zM} {rt : Option FieldType} {sc : Option (Nat × (Nat → Int32))} {cal : zC} {k : zK}
    (C : zCx p R s m args meth c own cc nL ini D cA fv A ad0 d) (hk : ∀ pc' ls' st' M', k pc' ls' st' M' = some rr → zW p l e R s m args below meth c Q D cA fv A ad0 M0 nL pc' ls' st' M') {pc nxt : Nat} {aux : List Nat} {ld : Option (List Nat)} {ls : zLs} {st : List Value} {M : zM} {n : Int} 
    (hok : zOk own cc nL rt ini (pc, .if_icmp .lt n, nxt, aux, ld) = true) (h : stp sc cal (pc, .if_icmp .lt n, nxt, aux, ld) ls st M k = some rr) : zW p l e R s m args below meth c Q D cA fv A ad0 M0 nL pc ls st M := by
  obtain ⟨hx, hb, hml, hown, hts, hK, hA, hini, hX, hfv, hfr, hlo⟩ := C
  obtain ⟨y, st, rfl, h⟩ := pI_some h
  obtain ⟨x, st, rfl, h⟩ := pI_some h
  have h : (if x < y then k (aux.getD 0 0) ls st M else k nxt ls st M) = some rr := h
  obtain ⟨hdg, rfl, hj⟩ := zchk_of2 hok
  have hj := of_decide_eq_true hj
  intro ad H locs L had hn1 hn2 hwf hP hD hS hl
  refine lv_icmp_lt hx hb hdg hj (fun q => by rw [if_pos q] at h; exact hk _ _ _ _ h ad H locs L had hn1 hn2 hwf hP hD hS hl) (fun q => by rw [if_neg q] at h; exact hk _ _ _ _ h ad H locs L had hn1 hn2 hwf hP hD hS hl)
theorem ss_ifCond_ge {p : Program} {l : Launch} {e : Env} {R : Room} {s : State} {m : MethodId} {args : Array Value} {below : List Frame} {meth : Method} {c : Code} {own : String} {cc : ByteArray} {nL : Nat} {ini : Bool} {D : va_G} {cA : Nat → ClassId} {fv : Value} {A : Nat → Prop} {ad0 : Nat → Nat} {d : Nat} {Q : State → Prop} {rr : zR} {M0 : zM} {rt : Option FieldType} {sc : Option (Nat × (Nat → Int32))} {cal : zC} {k : zK}
    (C : zCx p R s m args meth c own cc nL ini D cA fv A ad0 d) (hk : ∀ pc' ls' st' M', k pc' ls' st' M' = some rr → zW p l e R s m args below meth c Q D cA fv A ad0 M0 nL pc' ls' st' M') {pc nxt : Nat} {aux : List Nat} {ld : Option (List Nat)} {ls : zLs} {st : List Value} {M : zM} {n : Int} 
    (hok : zOk own cc nL rt ini (pc, .ifCond .ge n, nxt, aux, ld) = true) (h : stp sc cal (pc, .ifCond .ge n, nxt, aux, ld) ls st M k = some rr) : zW p l e R s m args below meth c Q D cA fv A ad0 M0 nL pc ls st M := by
  obtain ⟨hx, hb, hml, hown, hts, hK, hA, hini, hX, hfv, hfr, hlo⟩ := C
  obtain ⟨x, st, rfl, h⟩ := pI_some h
  have h : (if 0 ≤ x then k (aux.getD 0 0) ls st M else k nxt ls st M) = some rr := h
  obtain ⟨hdg, rfl, hj⟩ := zchk_of2 hok
  have hj := of_decide_eq_true hj
  intro ad H locs L had hn1 hn2 hwf hP hD hS hl
  refine lv_if_ge hx hb hdg hj (fun q => by rw [if_pos q] at h; exact hk _ _ _ _ h ad H locs L had hn1 hn2 hwf hP hD hS hl) (fun q => by rw [if_neg q] at h; exact hk _ _ _ _ h ad H locs L had hn1 hn2 hwf hP hD hS hl)
theorem ss_if_icmp_ge {p : Program} {l : Launch} {e : Env} {R : Room} {s : State} {m : MethodId} {args : Array Value} {below : List Frame} {meth : Method} {c : Code} {own : String} {cc : ByteArray} {nL : Nat} {ini : Bool} {D : va_G} {cA : Nat → ClassId} {fv : Value} {A : Nat → Prop} {ad0 : Nat → Nat} {d : Nat} {Q : State → Prop} {rr : zR} {M0 : zM} {rt : Option FieldType} {sc : Option (Nat × (Nat → Int32))} {cal : zC} {k : zK}
    (C : zCx p R s m args meth c own cc nL ini D cA fv A ad0 d) (hk : ∀ pc' ls' st' M', k pc' ls' st' M' = some rr → zW p l e R s m args below meth c Q D cA fv A ad0 M0 nL pc' ls' st' M') {pc nxt : Nat} {aux : List Nat} {ld : Option (List Nat)} {ls : zLs} {st : List Value} {M : zM} {n : Int} 
    (hok : zOk own cc nL rt ini (pc, .if_icmp .ge n, nxt, aux, ld) = true) (h : stp sc cal (pc, .if_icmp .ge n, nxt, aux, ld) ls st M k = some rr) : zW p l e R s m args below meth c Q D cA fv A ad0 M0 nL pc ls st M := by
  obtain ⟨hx, hb, hml, hown, hts, hK, hA, hini, hX, hfv, hfr, hlo⟩ := C
  obtain ⟨y, st, rfl, h⟩ := pI_some h
  obtain ⟨x, st, rfl, h⟩ := pI_some h
  have h : (if y ≤ x then k (aux.getD 0 0) ls st M else k nxt ls st M) = some rr := h
  obtain ⟨hdg, rfl, hj⟩ := zchk_of2 hok
  have hj := of_decide_eq_true hj
  intro ad H locs L had hn1 hn2 hwf hP hD hS hl
  refine lv_icmp_ge hx hb hdg hj (fun q => by rw [if_pos q] at h; exact hk _ _ _ _ h ad H locs L had hn1 hn2 hwf hP hD hS hl) (fun q => by rw [if_neg q] at h; exact hk _ _ _ _ h ad H locs L had hn1 hn2 hwf hP hD hS hl)
theorem ss_ifCond_gt {p : Program} {l : Launch} {e : Env} {R : Room} {s : State} {m : MethodId} {args : Array Value} {below : List Frame} {meth : Method} {c : Code} {own : String} {cc : ByteArray} {nL : Nat} {ini : Bool} {D : va_G} {cA : Nat → ClassId} {fv : Value} {A : Nat → Prop} {ad0 : Nat → Nat} {d : Nat} {Q : State → Prop} {rr : zR} {M0 : zM} {rt : Option FieldType} {sc : Option (Nat × (Nat → Int32))} {cal : zC} {k : zK}
    (C : zCx p R s m args meth c own cc nL ini D cA fv A ad0 d) (hk : ∀ pc' ls' st' M', k pc' ls' st' M' = some rr → zW p l e R s m args below meth c Q D cA fv A ad0 M0 nL pc' ls' st' M') {pc nxt : Nat} {aux : List Nat} {ld : Option (List Nat)} {ls : zLs} {st : List Value} {M : zM} {n : Int} 
    (hok : zOk own cc nL rt ini (pc, .ifCond .gt n, nxt, aux, ld) = true) (h : stp sc cal (pc, .ifCond .gt n, nxt, aux, ld) ls st M k = some rr) : zW p l e R s m args below meth c Q D cA fv A ad0 M0 nL pc ls st M := by
  obtain ⟨hx, hb, hml, hown, hts, hK, hA, hini, hX, hfv, hfr, hlo⟩ := C
  obtain ⟨x, st, rfl, h⟩ := pI_some h
  have h : (if 0 < x then k (aux.getD 0 0) ls st M else k nxt ls st M) = some rr := h
  obtain ⟨hdg, rfl, hj⟩ := zchk_of2 hok
  have hj := of_decide_eq_true hj
  intro ad H locs L had hn1 hn2 hwf hP hD hS hl
  refine lv_if_gt hx hb hdg hj (fun q => by rw [if_pos q] at h; exact hk _ _ _ _ h ad H locs L had hn1 hn2 hwf hP hD hS hl) (fun q => by rw [if_neg q] at h; exact hk _ _ _ _ h ad H locs L had hn1 hn2 hwf hP hD hS hl)
theorem ss_if_icmp_gt {p : Program} {l : Launch} {e : Env} {R : Room} {s : State} {m : MethodId} {args : Array Value} {below : List Frame} {meth : Method} {c : Code} {own : String} {cc : ByteArray} {nL : Nat} {ini : Bool} {D : va_G} {cA : Nat → ClassId} {fv : Value} {A : Nat → Prop} {ad0 : Nat → Nat} {d : Nat} {Q : State → Prop} {rr : zR} {M0 : zM} {rt : Option FieldType} {sc : Option (Nat × (Nat → Int32))} {cal : zC} {k : zK}
    (C : zCx p R s m args meth c own cc nL ini D cA fv A ad0 d) (hk : ∀ pc' ls' st' M', k pc' ls' st' M' = some rr → zW p l e R s m args below meth c Q D cA fv A ad0 M0 nL pc' ls' st' M') {pc nxt : Nat} {aux : List Nat} {ld : Option (List Nat)} {ls : zLs} {st : List Value} {M : zM} {n : Int} 
    (hok : zOk own cc nL rt ini (pc, .if_icmp .gt n, nxt, aux, ld) = true) (h : stp sc cal (pc, .if_icmp .gt n, nxt, aux, ld) ls st M k = some rr) : zW p l e R s m args below meth c Q D cA fv A ad0 M0 nL pc ls st M := by
  obtain ⟨hx, hb, hml, hown, hts, hK, hA, hini, hX, hfv, hfr, hlo⟩ := C
  obtain ⟨y, st, rfl, h⟩ := pI_some h
  obtain ⟨x, st, rfl, h⟩ := pI_some h
  have h : (if y < x then k (aux.getD 0 0) ls st M else k nxt ls st M) = some rr := h
  obtain ⟨hdg, rfl, hj⟩ := zchk_of2 hok
  have hj := of_decide_eq_true hj
  intro ad H locs L had hn1 hn2 hwf hP hD hS hl
  refine lv_icmp_gt hx hb hdg hj (fun q => by rw [if_pos q] at h; exact hk _ _ _ _ h ad H locs L had hn1 hn2 hwf hP hD hS hl) (fun q => by rw [if_neg q] at h; exact hk _ _ _ _ h ad H locs L had hn1 hn2 hwf hP hD hS hl)
theorem ss_ifCond_le {p : Program} {l : Launch} {e : Env} {R : Room} {s : State} {m : MethodId} {args : Array Value} {below : List Frame} {meth : Method} {c : Code} {own : String} {cc : ByteArray} {nL : Nat} {ini : Bool} {D : va_G} {cA : Nat → ClassId} {fv : Value} {A : Nat → Prop} {ad0 : Nat → Nat} {d : Nat} {Q : State → Prop} {rr : zR} {M0 : zM} {rt : Option FieldType} {sc : Option (Nat × (Nat → Int32))} {cal : zC} {k : zK}
    (C : zCx p R s m args meth c own cc nL ini D cA fv A ad0 d) (hk : ∀ pc' ls' st' M', k pc' ls' st' M' = some rr → zW p l e R s m args below meth c Q D cA fv A ad0 M0 nL pc' ls' st' M') {pc nxt : Nat} {aux : List Nat} {ld : Option (List Nat)} {ls : zLs} {st : List Value} {M : zM} {n : Int} 
    (hok : zOk own cc nL rt ini (pc, .ifCond .le n, nxt, aux, ld) = true) (h : stp sc cal (pc, .ifCond .le n, nxt, aux, ld) ls st M k = some rr) : zW p l e R s m args below meth c Q D cA fv A ad0 M0 nL pc ls st M := by
  obtain ⟨hx, hb, hml, hown, hts, hK, hA, hini, hX, hfv, hfr, hlo⟩ := C
  obtain ⟨x, st, rfl, h⟩ := pI_some h
  have h : (if x ≤ 0 then k (aux.getD 0 0) ls st M else k nxt ls st M) = some rr := h
  obtain ⟨hdg, rfl, hj⟩ := zchk_of2 hok
  have hj := of_decide_eq_true hj
  intro ad H locs L had hn1 hn2 hwf hP hD hS hl
  refine lv_if_le hx hb hdg hj (fun q => by rw [if_pos q] at h; exact hk _ _ _ _ h ad H locs L had hn1 hn2 hwf hP hD hS hl) (fun q => by rw [if_neg q] at h; exact hk _ _ _ _ h ad H locs L had hn1 hn2 hwf hP hD hS hl)
theorem ss_if_icmp_le {p : Program} {l : Launch} {e : Env} {R : Room} {s : State} {m : MethodId} {args : Array Value} {below : List Frame} {meth : Method} {c : Code} {own : String} {cc : ByteArray} {nL : Nat} {ini : Bool} {D : va_G} {cA : Nat → ClassId} {fv : Value} {A : Nat → Prop} {ad0 : Nat → Nat} {d : Nat} {Q : State → Prop} {rr : zR} {M0 : zM} {rt : Option FieldType} {sc : Option (Nat × (Nat → Int32))} {cal : zC} {k : zK}
    (C : zCx p R s m args meth c own cc nL ini D cA fv A ad0 d) (hk : ∀ pc' ls' st' M', k pc' ls' st' M' = some rr → zW p l e R s m args below meth c Q D cA fv A ad0 M0 nL pc' ls' st' M') {pc nxt : Nat} {aux : List Nat} {ld : Option (List Nat)} {ls : zLs} {st : List Value} {M : zM} {n : Int} 
    (hok : zOk own cc nL rt ini (pc, .if_icmp .le n, nxt, aux, ld) = true) (h : stp sc cal (pc, .if_icmp .le n, nxt, aux, ld) ls st M k = some rr) : zW p l e R s m args below meth c Q D cA fv A ad0 M0 nL pc ls st M := by
  obtain ⟨hx, hb, hml, hown, hts, hK, hA, hini, hX, hfv, hfr, hlo⟩ := C
  obtain ⟨y, st, rfl, h⟩ := pI_some h
  obtain ⟨x, st, rfl, h⟩ := pI_some h
  have h : (if x ≤ y then k (aux.getD 0 0) ls st M else k nxt ls st M) = some rr := h
  obtain ⟨hdg, rfl, hj⟩ := zchk_of2 hok
  have hj := of_decide_eq_true hj
  intro ad H locs L had hn1 hn2 hwf hP hD hS hl
  refine lv_icmp_le hx hb hdg hj (fun q => by rw [if_pos q] at h; exact hk _ _ _ _ h ad H locs L had hn1 hn2 hwf hP hD hS hl) (fun q => by rw [if_neg q] at h; exact hk _ _ _ _ h ad H locs L had hn1 hn2 hwf hP hD hS hl)
