/-! THE PURE MACHINE SAYS THE TRUTH, on: memory -/
theorem zst_ref {fv : Value} {ad : Nat → Nat} {r : Nat} (h : 0 < r) : zv fv ad (.ref r) = .ref (ad r) := by
  show rfv ad r = _
  exact if_neg (by omega)
theorem zst_rf {fv : Value} {ad : Nat → Nat} {r : Nat} : zv fv ad (.ref r) = va_rf (if r = 0 then none else some (ad r)) := by
  show rfv ad r = _
  unfold rfv
  by_cases h : r = 0
  · rw [if_pos h, if_pos h]; rfl
  · rw [if_neg h, if_neg h]; rfl
theorem zfld_of {own : String} {i pc nxt : Nat} {ins : Instr} {aux : List Nat} {ld : Option (List Nat)} (h : zfld own i (pc, ins, nxt, aux, ld) = true) : ∃ q : vw_C, zCl[aux.getD 0 0]? = some q ∧ aux.getD 1 0 < q.2.2 ∧ ztc (zTy (aux.getD 0 0) (aux.getD 1 0)) = (if aux.getD 2 0 = 3 then 0 else aux.getD 2 0) ∧ aux.getD 2 0 ≤ 3 ∧ (q.2.1 (aux.getD 1 0)).1 = q.1 ∧
    (if aux.getD 4 0 = 0 then Cond.fieldLink own i q.1 (q.2.1 (aux.getD 1 0)).2.1 (q.2.1 (aux.getD 1 0)).2.2.1 ∈ zTb else Cond.fieldLinkNest own i q.1 (q.2.1 (aux.getD 1 0)).2.1 (q.2.1 (aux.getD 1 0)).2.2.1 "SilkRise" ∈ zTb) := by
  unfold zfld at h
  split at h
  · cases h
  · rename_i q hq
    simp only [Bool.and_eq_true, decide_eq_true_eq] at h
    obtain ⟨⟨⟨⟨h1, h2⟩, h3⟩, h4⟩, h5⟩ := h
    refine ⟨q, hq, h1, h2, h3, h4, ?_⟩
    split at h5
    · rename_i h6
      rw [if_pos h6]
      exact zwd_in h5
    · rename_i h6
      rw [if_neg h6]
      exact zwd_in h5
theorem zcl_lt {ci : Nat} {q : vw_C} (h : zCl[ci]? = some q) : ci < 13 := (List.getElem?_eq_some_iff.mp h).1
theorem ss_dup {p : Program} {l : Launch} {e : Env} {R : Room} {s : State} {m : MethodId} {args : Array Value} {below : List Frame} {meth : Method} {c : Code} {own : String} {cc : ByteArray} {nL : Nat} {ini : Bool} {D : va_G} {cA : Nat → ClassId} {fv : Value} {A : Nat → Prop} {ad0 : Nat → Nat} {d : Nat} {Q : State → Prop} {rr : zR} {M0 : zM} {rt : Option FieldType} {sc : Option (Nat × (Nat → Int32))} {cal : zC} {k : zK}
    (C : zCx p R s m args meth c own cc nL ini D cA fv A ad0 d) (hk : ∀ pc' ls' st' M', k pc' ls' st' M' = some rr → zW p l e R s m args below meth c Q D cA fv A ad0 M0 nL pc' ls' st' M') {pc nxt : Nat} {aux : List Nat} {ld : Option (List Nat)} {ls : zLs} {st : List Value} {M : zM} 
    (hok : zOk own cc nL rt ini (pc, .dup, nxt, aux, ld) = true) (h : stp sc cal (pc, .dup, nxt, aux, ld) ls st M k = some rr) : zW p l e R s m args below meth c Q D cA fv A ad0 M0 nL pc ls st M := by
  obtain ⟨hx, hb, hml, hown, hts, hK, hA, hini, hX, hfv, hfr, hlo⟩ := C
  have h : p1 st (fun v st => k nxt ls (v :: v :: st) M) = some rr := h
  intro ad H locs L had hn1 hn2 hwf hP hD hS hl
  obtain ⟨v, st, rfl, hc, h1⟩ := p1_some (fv := fv) (ad := ad) h
  obtain ⟨hdg, rfl⟩ := zchk_of hok
  refine lv_dup hx hb hdg hc ?_
  exact hk _ _ _ _ h1 ad H locs L had hn1 hn2 hwf hP hD hS hl
theorem ss_pop {p : Program} {l : Launch} {e : Env} {R : Room} {s : State} {m : MethodId} {args : Array Value} {below : List Frame} {meth : Method} {c : Code} {own : String} {cc : ByteArray} {nL : Nat} {ini : Bool} {D : va_G} {cA : Nat → ClassId} {fv : Value} {A : Nat → Prop} {ad0 : Nat → Nat} {d : Nat} {Q : State → Prop} {rr : zR} {M0 : zM} {rt : Option FieldType} {sc : Option (Nat × (Nat → Int32))} {cal : zC} {k : zK}
    (C : zCx p R s m args meth c own cc nL ini D cA fv A ad0 d) (hk : ∀ pc' ls' st' M', k pc' ls' st' M' = some rr → zW p l e R s m args below meth c Q D cA fv A ad0 M0 nL pc' ls' st' M') {pc nxt : Nat} {aux : List Nat} {ld : Option (List Nat)} {ls : zLs} {st : List Value} {M : zM} 
    (hok : zOk own cc nL rt ini (pc, .pop, nxt, aux, ld) = true) (h : stp sc cal (pc, .pop, nxt, aux, ld) ls st M k = some rr) : zW p l e R s m args below meth c Q D cA fv A ad0 M0 nL pc ls st M := by
  obtain ⟨hx, hb, hml, hown, hts, hK, hA, hini, hX, hfv, hfr, hlo⟩ := C
  have h : p1 st (fun v st => k nxt ls st M) = some rr := h
  intro ad H locs L had hn1 hn2 hwf hP hD hS hl
  obtain ⟨v, st, rfl, hc, h1⟩ := p1_some (fv := fv) (ad := ad) h
  obtain ⟨hdg, rfl⟩ := zchk_of hok
  refine lv_pop hx hb hdg hc ?_
  exact hk _ _ _ _ h1 ad H locs L had hn1 hn2 hwf hP hD hS hl
theorem ss_dup2 {p : Program} {l : Launch} {e : Env} {R : Room} {s : State} {m : MethodId} {args : Array Value} {below : List Frame} {meth : Method} {c : Code} {own : String} {cc : ByteArray} {nL : Nat} {ini : Bool} {D : va_G} {cA : Nat → ClassId} {fv : Value} {A : Nat → Prop} {ad0 : Nat → Nat} {d : Nat} {Q : State → Prop} {rr : zR} {M0 : zM} {rt : Option FieldType} {sc : Option (Nat × (Nat → Int32))} {cal : zC} {k : zK}
    (C : zCx p R s m args meth c own cc nL ini D cA fv A ad0 d) (hk : ∀ pc' ls' st' M', k pc' ls' st' M' = some rr → zW p l e R s m args below meth c Q D cA fv A ad0 M0 nL pc' ls' st' M') {pc nxt : Nat} {aux : List Nat} {ld : Option (List Nat)} {ls : zLs} {st : List Value} {M : zM} 
    (hok : zOk own cc nL rt ini (pc, .dup2, nxt, aux, ld) = true) (h : stp sc cal (pc, .dup2, nxt, aux, ld) ls st M k = some rr) : zW p l e R s m args below meth c Q D cA fv A ad0 M0 nL pc ls st M := by
  obtain ⟨hx, hb, hml, hown, hts, hK, hA, hini, hX, hfv, hfr, hlo⟩ := C
  have h : p1 st (fun v st => p1 st fun w st => k nxt ls (v :: w :: v :: w :: st) M) = some rr := h
  intro ad H locs L had hn1 hn2 hwf hP hD hS hl
  obtain ⟨v, st, rfl, hc, h1⟩ := p1_some (fv := fv) (ad := ad) h
  obtain ⟨w, st, rfl, hc2, h2⟩ := p1_some (fv := fv) (ad := ad) h1
  obtain ⟨hdg, rfl⟩ := zchk_of hok
  refine lv_dup2_11 hx hb hdg hc hc2 ?_
  exact hk _ _ _ _ h2 ad H locs L had hn1 hn2 hwf hP hD hS hl
theorem ss_ldc_w {p : Program} {l : Launch} {e : Env} {R : Room} {s : State} {m : MethodId} {args : Array Value} {below : List Frame} {meth : Method} {c : Code} {own : String} {cc : ByteArray} {nL : Nat} {ini : Bool} {D : va_G} {cA : Nat → ClassId} {fv : Value} {A : Nat → Prop} {ad0 : Nat → Nat} {d : Nat} {Q : State → Prop} {rr : zR} {M0 : zM} {rt : Option FieldType} {sc : Option (Nat × (Nat → Int32))} {cal : zC} {k : zK}
    (C : zCx p R s m args meth c own cc nL ini D cA fv A ad0 d) (hk : ∀ pc' ls' st' M', k pc' ls' st' M' = some rr → zW p l e R s m args below meth c Q D cA fv A ad0 M0 nL pc' ls' st' M') {pc nxt : Nat} {aux : List Nat} {ld : Option (List Nat)} {ls : zLs} {st : List Value} {M : zM} {i : Nat} 
    (hok : zOk own cc nL rt ini (pc, .ldc_w i, nxt, aux, ld) = true) (h : stp sc cal (pc, .ldc_w i, nxt, aux, ld) ls st M k = some rr) : zW p l e R s m args below meth c Q D cA fv A ad0 M0 nL pc ls st M := by
  obtain ⟨hx, hb, hml, hown, hts, hK, hA, hini, hX, hfv, hfr, hlo⟩ := C
  have h : k nxt ls (.int (Int32.ofNat (aux.getD 1 0)) :: st) M = some rr := h
  obtain ⟨hdg, rfl, hc⟩ := zchk_of2 hok
  intro ad H locs L had hn1 hn2 hwf hP hD hS hl
  refine lv_ldcw hx hb hown (hts _ (zwd_in hc)) hdg ?_
  exact hk _ _ _ _ h ad H locs L had hn1 hn2 hwf hP hD hS hl
theorem ss_ldc2_w {p : Program} {l : Launch} {e : Env} {R : Room} {s : State} {m : MethodId} {args : Array Value} {below : List Frame} {meth : Method} {c : Code} {own : String} {cc : ByteArray} {nL : Nat} {ini : Bool} {D : va_G} {cA : Nat → ClassId} {fv : Value} {A : Nat → Prop} {ad0 : Nat → Nat} {d : Nat} {Q : State → Prop} {rr : zR} {M0 : zM} {rt : Option FieldType} {sc : Option (Nat × (Nat → Int32))} {cal : zC} {k : zK}
    (C : zCx p R s m args meth c own cc nL ini D cA fv A ad0 d) (hk : ∀ pc' ls' st' M', k pc' ls' st' M' = some rr → zW p l e R s m args below meth c Q D cA fv A ad0 M0 nL pc' ls' st' M') {pc nxt : Nat} {aux : List Nat} {ld : Option (List Nat)} {ls : zLs} {st : List Value} {M : zM} {i : Nat} 
    (hok : zOk own cc nL rt ini (pc, .ldc2_w i, nxt, aux, ld) = true) (h : stp sc cal (pc, .ldc2_w i, nxt, aux, ld) ls st M k = some rr) : zW p l e R s m args below meth c Q D cA fv A ad0 M0 nL pc ls st M := by
  obtain ⟨hx, hb, hml, hown, hts, hK, hA, hini, hX, hfv, hfr, hlo⟩ := C
  have h : k nxt ls (.long (Int64.ofNat (aux.getD 1 0)) :: st) M = some rr := h
  obtain ⟨hdg, rfl, hc⟩ := zchk_of2 hok
  intro ad H locs L had hn1 hn2 hwf hP hD hS hl
  refine lv_ldc2 hx hb hown (hts _ (zwd_in hc)) hdg ?_
  exact hk _ _ _ _ h ad H locs L had hn1 hn2 hwf hP hD hS hl
theorem ss_ldc {p : Program} {l : Launch} {e : Env} {R : Room} {s : State} {m : MethodId} {args : Array Value} {below : List Frame} {meth : Method} {c : Code} {own : String} {cc : ByteArray} {nL : Nat} {ini : Bool} {D : va_G} {cA : Nat → ClassId} {fv : Value} {A : Nat → Prop} {ad0 : Nat → Nat} {d : Nat} {Q : State → Prop} {rr : zR} {M0 : zM} {rt : Option FieldType} {sc : Option (Nat × (Nat → Int32))} {cal : zC} {k : zK}
    (C : zCx p R s m args meth c own cc nL ini D cA fv A ad0 d) (hk : ∀ pc' ls' st' M', k pc' ls' st' M' = some rr → zW p l e R s m args below meth c Q D cA fv A ad0 M0 nL pc' ls' st' M') {pc nxt : Nat} {aux : List Nat} {ld : Option (List Nat)} {ls : zLs} {st : List Value} {M : zM} {i : Nat} 
    (hok : zOk own cc nL rt ini (pc, .ldc i, nxt, aux, ld) = true) (h : stp sc cal (pc, .ldc i, nxt, aux, ld) ls st M k = some rr) : zW p l e R s m args below meth c Q D cA fv A ad0 M0 nL pc ls st M := by
  obtain ⟨hx, hb, hml, hown, hts, hK, hA, hini, hX, hfv, hfr, hlo⟩ := C
  have h : (if aux.getD 0 0 = 0 then k nxt ls (.int (Int32.ofNat (aux.getD 1 0)) :: st) M else k nxt ls (.ref (aux.getD 1 0 + 2) :: st) M) = some rr := h
  obtain ⟨hdg, rfl, hc⟩ := zchk_of2 hok
  have hc : (if aux.getD 0 0 = 0 then _ else _) = true := hc
  by_cases h0 : aux.getD 0 0 = 0
  · rw [if_pos h0] at h hc
    intro ad H locs L had hn1 hn2 hwf hP hD hS hl
    refine lv_ldc hx hb hown (hts _ (zwd_in hc)) hdg ?_
    exact hk _ _ _ _ h ad H locs L had hn1 hn2 hwf hP hD hS hl
  · rw [if_neg h0] at h hc
    have hc1 : own = "SilkRise$Tokens" ∧ (aux.getD 1 0 = 0 ∧ i = 39 ∨ aux.getD 1 0 = 1 ∧ i = 88) := of_decide_eq_true hc
    obtain ⟨ho, hc2⟩ := hc1
    clear hc
    subst ho
    intro ad H locs L had hn1 hn2 hwf hP hD hS hl
    have hq := hk _ _ _ _ h ad H locs L had hn1 hn2 hwf hP hD hS hl
    rw [List.map_cons, zst_ref (by omega), had _ (Or.inl (by rcases hc2 with ⟨e1, _⟩ | ⟨e1, _⟩ <;> omega))] at hq
    rcases hc2 with ⟨e1, rfl⟩ | ⟨e1, rfl⟩
    · refine va_ldcS hx hb hown hX.2.1 hdg ?_
      rw [e1] at hq
      exact hq
    · refine va_ldcS hx hb hown hX.2.2.1 hdg ?_
      rw [e1] at hq
      exact hq
theorem zsw_some {x : Int32} {f : Nat → Option zR} {dflt : Nat} {r : zR} : ∀ (ts : List Nat) (lo : Int), -1000 ≤ lo → lo + ts.length ≤ 1001 → zsw x f dflt lo ts = some r →
    ((x.toInt < lo ∨ lo + ts.length ≤ x.toInt) ∧ f dflt = some r) ∨ ∃ (i : Nat) (t : Nat), ts[i]? = some t ∧ x.toInt = lo + i ∧ f t = some r
  | [], lo, _, _, h => Or.inl ⟨by simp only [List.length_nil]; omega, h⟩
  | t :: ts, lo, h1, h2, h => by
    rw [List.length_cons] at h2
    unfold zsw at h
    have ho : (Int32.ofInt lo).toInt = lo := by
      rw [Int32.toInt_ofInt_of_le (by omega) (by omega)]
    split at h
    · rename_i hx
      refine Or.inr ⟨0, t, rfl, ?_, h⟩
      rw [hx, ho]
      omega
    · rename_i hx
      have hne : x.toInt ≠ lo := fun q => hx (Int32.toInt_inj.mp (q.trans ho.symm))
      rcases zsw_some ts (lo + 1) (by omega) (by omega) h with ⟨h3, h4⟩ | ⟨i, t', h3, h4, h5⟩
      · refine Or.inl ⟨?_, h4⟩
        rw [List.length_cons]
        omega
      · refine Or.inr ⟨i + 1, t', h3, ?_, h5⟩
        omega
theorem ss_tableswitch {p : Program} {l : Launch} {e : Env} {R : Room} {s : State} {m : MethodId} {args : Array Value} {below : List Frame} {meth : Method} {c : Code} {own : String} {cc : ByteArray} {nL : Nat} {ini : Bool} {D : va_G} {cA : Nat → ClassId} {fv : Value} {A : Nat → Prop} {ad0 : Nat → Nat} {d : Nat} {Q : State → Prop} {rr : zR} {M0 : zM} {rt : Option FieldType} {sc : Option (Nat × (Nat → Int32))} {cal : zC} {k : zK}
    (C : zCx p R s m args meth c own cc nL ini D cA fv A ad0 d) (hk : ∀ pc' ls' st' M', k pc' ls' st' M' = some rr → zW p l e R s m args below meth c Q D cA fv A ad0 M0 nL pc' ls' st' M') {pc nxt : Nat} {aux : List Nat} {ld : Option (List Nat)} {ls : zLs} {st : List Value} {M : zM} {df lo hi : Int} {offs : Array Int} 
    (hok : zOk own cc nL rt ini (pc, .tableswitch df lo hi offs, nxt, aux, ld) = true) (h : stp sc cal (pc, .tableswitch df lo hi offs, nxt, aux, ld) ls st M k = some rr) : zW p l e R s m args below meth c Q D cA fv A ad0 M0 nL pc ls st M := by
  obtain ⟨hx, hb, hml, hown, hts, hK, hA, hini, hX, hfv, hfr, hlo⟩ := C
  obtain ⟨x, st, rfl, h1⟩ := pI_some h
  clear h
  have h1 : zsw x (fun t => k t ls st M) (aux.getD 0 0) lo (aux.drop 1) = some rr := h1
  have hok : (decide (decode cc pc = .ok (.tableswitch df lo hi offs, nxt - pc)) && zjmp (pc, .tableswitch df lo hi offs, nxt, aux, ld) df && decide (offs.toList.map (fun o => (pc : Int) + o) = (aux.drop 1).map (fun t => ((t : Nat) : Int))) && decide (hi - lo + 1 = (offs.size : Int)) && decide (-1000 ≤ lo) && decide (hi ≤ 1000)) = true := hok
  simp only [Bool.and_eq_true, decide_eq_true_eq] at hok
  obtain ⟨⟨⟨⟨⟨hdg, hj⟩, hm⟩, hs⟩, hlo1⟩, hhi⟩ := hok
  have hj := of_decide_eq_true hj
  have hlen : offs.size = (aux.drop 1).length := by
    have := congrArg List.length hm
    rw [List.length_map, List.length_map, Array.length_toList] at this
    exact this
  intro ad H locs L had hn1 hn2 hwf hP hD hS hl
  rcases zsw_some _ lo hlo1 (by omega) h1 with ⟨h3, h4⟩ | ⟨i, t, h3, h4, h5⟩
  · refine lv_tableOut hx hb hdg (by omega) hj ?_
    exact hk _ _ _ _ h4 ad H locs L had hn1 hn2 hwf hP hD hS hl
  · have hi1 : i < (aux.drop 1).length := (List.getElem?_eq_some_iff.mp h3).1
    have ho : offs[i]? = some (offs[i]'(by omega)) := Array.getElem?_eq_getElem _
    have hz : (pc : Int) + offs[i]'(by omega) = (t : Int) := by
      have h6 := congrArg (fun l => l[i]?) hm
      simp only [List.getElem?_map, h3, Array.getElem?_toList, ho, Option.map_some] at h6
      exact Option.some.inj h6
    refine lv_tableIn hx hb hdg (by omega) (by omega) (by rw [show (x.toInt - lo).toNat = i by omega]; exact ho) hz ?_
    exact hk _ _ _ _ h5 ad H locs L had hn1 hn2 hwf hP hD hS hl
theorem ss_getfield {p : Program} {l : Launch} {e : Env} {R : Room} {s : State} {m : MethodId} {args : Array Value} {below : List Frame} {meth : Method} {c : Code} {own : String} {cc : ByteArray} {nL : Nat} {ini : Bool} {D : va_G} {cA : Nat → ClassId} {fv : Value} {A : Nat → Prop} {ad0 : Nat → Nat} {d : Nat} {Q : State → Prop} {rr : zR} {M0 : zM} {rt : Option FieldType} {sc : Option (Nat × (Nat → Int32))} {cal : zC} {k : zK}
    (C : zCx p R s m args meth c own cc nL ini D cA fv A ad0 d) (hk : ∀ pc' ls' st' M', k pc' ls' st' M' = some rr → zW p l e R s m args below meth c Q D cA fv A ad0 M0 nL pc' ls' st' M') {pc nxt : Nat} {aux : List Nat} {ld : Option (List Nat)} {ls : zLs} {st : List Value} {M : zM} {i : Nat} 
    (hok : zOk own cc nL rt ini (pc, .getfield i, nxt, aux, ld) = true) (h : stp sc cal (pc, .getfield i, nxt, aux, ld) ls st M k = some rr) : zW p l e R s m args below meth c Q D cA fv A ad0 M0 nL pc ls st M := by
  obtain ⟨hx, hb, hml, hown, hts, hK, hA, hini, hX, hfv, hfr, hlo⟩ := C
  obtain ⟨hdg, rfl, hc⟩ := zchk_of2 hok
  have hc : (if aux.getD 0 0 = 30 then (if aux.getD 1 0 = 0 then zwd (aux.getD 3 0) (.fieldLink own i "java/lang/String" "value" "[B") else zwd (aux.getD 3 0) (.fieldLink own i "java/lang/String" "coder" "B")) else zfld own i (pc, .getfield i, pc + 3, aux, ld) && decide (aux.getD 2 0 ≤ 2)) = true := hc
  have h : (if aux.getD 0 0 = 30 then (if aux.getD 1 0 = 0 then _ else _) else _) = some rr := h
  by_cases h30 : aux.getD 0 0 = 30
  · rw [if_pos h30] at h hc
    by_cases h0 : aux.getD 1 0 = 0
    · rw [if_pos h0] at h hc
      obtain ⟨r, st, rfl, h1⟩ := pA_some h
      obtain ⟨hg, h2⟩ := ite_some h1
      clear h h1
      intro ad H locs L had hn1 hn2 hwf hP hD hS hl
      have hr := zgk30 hg (fun a => by have := hwf.2 a; omega)
      have hq := hk _ _ _ _ h2 ad H locs L had hn1 hn2 hwf hP hD hS hl
      rw [List.map_cons, zst_ref (by omega), had _ (Or.inl (by omega))] at hq
      rw [List.map_cons, zst_ref (by omega), had _ (Or.inl (by omega))]
      rcases hr with rfl | rfl
      · exact vk_getf hx hb (hX.1.1 0 (by omega)).2.2.1 hS hown (hts _ (zwd_in hc)) (fun _ z => z) hdg hq
      · exact vk_getf hx hb (hX.1.1 1 (by omega)).2.2.1 hS hown (hts _ (zwd_in hc)) (fun _ z => z) hdg hq
    · rw [if_neg h0] at h hc
      obtain ⟨r, st, rfl, h1⟩ := pA_some h
      obtain ⟨hg, h2⟩ := ite_some h1
      clear h h1
      intro ad H locs L had hn1 hn2 hwf hP hD hS hl
      have hr := zgk30 hg (fun a => by have := hwf.2 a; omega)
      have hq := hk _ _ _ _ h2 ad H locs L had hn1 hn2 hwf hP hD hS hl
      rw [List.map_cons, zst_ref (by omega), had _ (Or.inl (by omega))]
      rcases hr with rfl | rfl
      · exact vk_getf hx hb (hX.1.1 0 (by omega)).2.1 hS hown (hts _ (zwd_in hc)) (fun _ z => z) hdg hq
      · exact vk_getf hx hb (hX.1.1 1 (by omega)).2.1 hS hown (hts _ (zwd_in hc)) (fun _ z => z) hdg hq
  · rw [if_neg h30] at h hc
    rw [Bool.and_eq_true] at hc
    have ht2 := of_decide_eq_true hc.2
    obtain ⟨q, hq, hj, ht, -, hown2, hlk⟩ := zfld_of hc.1
    rw [if_neg (by omega)] at ht
    obtain ⟨hin, hty, hnm, hN⟩ := zcl_ok2 _ q hq
    have hci := zcl_lt hq
    have key : ∀ (r : Nat) (st : List Value), gK M r = aux.getD 0 0 → (∀ (ad : Nat → Nat) (H : Heap) (locs : List Loc) (L : Array Slot), (∀ r, (r < M0.1.1 + 7 ∨ M.1.1 + 7 ≤ r) → ad r = ad0 r) → M0.1.1 ≤ M.1.1 → M0.1.2.1 ≤ M.1.2.1 → zwf M → va_P D zCl (zws ad cA M) H → va_D A (zws ad cA M) → va_S A s.heap H locs → lv_has L nL (ls.map (zq fv ad)) → W p l e R s m args below meth c H locs (M.1.1 - M0.1.1) (M.1.2.1 - M0.1.2.1) Q (F0 m (pc + 3) L (zsv ad M r (aux.getD 0 0) (aux.getD 1 0) :: st.map (zv fv ad)))) → zW p l e R s m args below meth c Q D cA fv A ad0 M0 nL pc ls (.ref r :: st) M := by
      intro r st hg kk
      intro ad H locs L had hn1 hn2 hwf hP hD hS hl
      obtain ⟨g1, g2, g3⟩ := zgk hg (by omega) (by omega) (by omega)
      have hget := zws_get (ad := ad) (cA := cA) g1 g2
      rw [zce_obj g3 hci] at hget
      have hv := zfs_get (ad := ad) (M := M) (r := r) (ci := aux.getD 0 0) (j := aux.getD 1 0) (by rw [hN]; exact hj)
      rw [List.map_cons, zst_ref (by omega)]
      have kk := kk ad H locs L had hn1 hn2 hwf hP hD hS hl
      by_cases h4 : aux.getD 4 0 = 0
      · rw [if_pos h4] at hlk
        exact va_get hx hb hts hin hown hK hP (r - 7) hget hq (aux.getD 1 0) hj (hts _ hlk) (fun x hx => by rw [hown2] at hx; exact hx) hv hdg kk
      · rw [if_neg h4] at hlk
        exact va_getN hx hb hts hin hown hK hP (r - 7) hget hq (aux.getD 1 0) hj (hts _ hlk) (fun x hx => by rw [hown2] at hx; exact hx) hv hdg kk
    have h : (if aux.getD 2 0 = 0 then _ else if aux.getD 2 0 = 1 then _ else _) = some rr := h
    by_cases h0 : aux.getD 2 0 = 0
    · rw [if_pos h0] at h
      obtain ⟨r, st, rfl, h1⟩ := pA_some h
      obtain ⟨hg, h2⟩ := ite_some h1
      clear h h1
      refine key r st hg fun ad H locs L had hn1 hn2 hwf hP hD hS hl => ?_
      have e1 : zsv ad M r (aux.getD 0 0) (aux.getD 1 0) = .int (gI M r (aux.getD 1 0)) := if_pos (by omega)
      rw [e1]
      exact hk _ _ _ _ h2 ad H locs L had hn1 hn2 hwf hP hD hS hl
    · rw [if_neg h0] at h
      by_cases h1 : aux.getD 2 0 = 1
      · rw [if_pos h1] at h
        obtain ⟨r, st, rfl, h3⟩ := pA_some h
        obtain ⟨hg, h2⟩ := ite_some h3
        clear h h3
        refine key r st hg fun ad H locs L had hn1 hn2 hwf hP hD hS hl => ?_
        have e1 : zsv ad M r (aux.getD 0 0) (aux.getD 1 0) = .long (gL M r (aux.getD 1 0)) := by unfold zsv; rw [if_neg (by omega), if_pos (by omega)]
        rw [e1]
        exact hk _ _ _ _ h2 ad H locs L had hn1 hn2 hwf hP hD hS hl
      · rw [if_neg h1] at h
        obtain ⟨r, st, rfl, h3⟩ := pA_some h
        obtain ⟨hg, h2⟩ := ite_some h3
        clear h h3
        refine key r st hg fun ad H locs L had hn1 hn2 hwf hP hD hS hl => ?_
        have e1 : zsv ad M r (aux.getD 0 0) (aux.getD 1 0) = rfv ad (gR M r (aux.getD 1 0)) := by unfold zsv; rw [if_neg (by omega), if_neg (by omega)]
        rw [e1]
        exact hk _ _ _ _ h2 ad H locs L had hn1 hn2 hwf hP hD hS hl
theorem ztc_fit0 {ty : FieldType} (h : ztc ty = 0) (hb : ty ≠ .boolean) (x : Int32) : narrow ty (.int x) = .int x ∧ fits ty (.int x) = true := by
  cases ty <;> first | exact ⟨rfl, rfl⟩ | exact absurd rfl hb | cases h
theorem ztc_fitB {ty : FieldType} (h : ztc ty = 0) {x : Int32} (hx : x = 0 ∨ x = 1) : narrow ty (.int x) = .int x ∧ fits ty (.int x) = true := by
  rcases hx with rfl | rfl
  · cases ty <;> first | exact ⟨rfl, rfl⟩ | cases h
  · cases ty <;> first | exact ⟨rfl, rfl⟩ | cases h
theorem ztc_fit1 {ty : FieldType} (h : ztc ty = 1) (x : Int64) : narrow ty (.long x) = .long x ∧ fits ty (.long x) = true := by
  cases ty <;> first | exact ⟨rfl, rfl⟩ | cases h
theorem ztc_fit2 {ty : FieldType} (h : ztc ty = 2) (ad : Nat → Nat) (x : Nat) : narrow ty (rfv ad x) = rfv ad x ∧ fits ty (rfv ad x) = true := by
  by_cases hx : x = 0
  · rw [show rfv ad x = .null from if_pos hx]
    cases ty <;> first | exact ⟨rfl, rfl⟩ | cases h
  · rw [show rfv ad x = .ref (ad x) from if_neg hx]
    cases ty <;> first | exact ⟨rfl, rfl⟩ | cases h
theorem ss_putfield {p : Program} {l : Launch} {e : Env} {R : Room} {s : State} {m : MethodId} {args : Array Value} {below : List Frame} {meth : Method} {c : Code} {own : String} {cc : ByteArray} {nL : Nat} {ini : Bool} {D : va_G} {cA : Nat → ClassId} {fv : Value} {A : Nat → Prop} {ad0 : Nat → Nat} {d : Nat} {Q : State → Prop} {rr : zR} {M0 : zM} {rt : Option FieldType} {sc : Option (Nat × (Nat → Int32))} {cal : zC} {k : zK}
    (C : zCx p R s m args meth c own cc nL ini D cA fv A ad0 d) (hk : ∀ pc' ls' st' M', k pc' ls' st' M' = some rr → zW p l e R s m args below meth c Q D cA fv A ad0 M0 nL pc' ls' st' M') {pc nxt : Nat} {aux : List Nat} {ld : Option (List Nat)} {ls : zLs} {st : List Value} {M : zM} {i : Nat} 
    (hok : zOk own cc nL rt ini (pc, .putfield i, nxt, aux, ld) = true) (h : stp sc cal (pc, .putfield i, nxt, aux, ld) ls st M k = some rr) : zW p l e R s m args below meth c Q D cA fv A ad0 M0 nL pc ls st M := by
  obtain ⟨hx, hb, hml, hown, hts, hK, hA, hini, hX, hfv, hfr, hlo⟩ := C
  have hok : (zchk cc (pc, .putfield i, nxt, aux, ld) 3 && zfld own i (pc, .putfield i, nxt, aux, ld) && zfin own ini (pc, .putfield i, nxt, aux, ld) && decide (zTy (aux.getD 0 0) (aux.getD 1 0) = .boolean → aux.getD 2 0 = 3)) = true := hok
  simp only [Bool.and_eq_true] at hok
  obtain ⟨⟨⟨hok, hc⟩, hfin⟩, hbo⟩ := hok
  have hbo := of_decide_eq_true hbo
  obtain ⟨hdg, rfl⟩ := zchk_of hok
  obtain ⟨q, hq, hj, ht, ht2, hown2, hlk⟩ := zfld_of hc
  obtain ⟨hin, hty, hnm, hN⟩ := zcl_ok2 _ q hq
  have hci := zcl_lt hq
  have hfin : (if (q.2.1 (aux.getD 1 0)).2.2.2 = true then ini && decide (q.1 = own) && decide (aux.getD 4 0 = 0) else true) = true := by
    unfold zfin at hfin
    dsimp only [ax] at hfin
    rw [hq] at hfin
    exact hfin
  have h : (if aux.getD 2 0 = 3 then _ else if aux.getD 2 0 = 0 then _ else if aux.getD 2 0 = 1 then _ else _) = some rr := h
  by_cases hb3 : aux.getD 2 0 = 3
  · rw [if_pos hb3] at h ht
    obtain ⟨x, st, rfl, h3⟩ := pI_some h
    obtain ⟨r, st, rfl, h4⟩ := pA_some h3
    obtain ⟨hg, h2⟩ := ite_some h4
    clear h h3 h4
    have hg : gK M r = aux.getD 0 0 ∧ (x = 0 ∨ x = 1) := hg
    intro ad H locs L had hn1 hn2 hwf hP hD hS hl
    obtain ⟨g1, g2, g3⟩ := zgk hg.1 (by omega) (by omega) (by omega)
    have hget := zws_get (ad := ad) (cA := cA) g1 g2
    rw [zce_obj g3 hci] at hget
    rw [List.map_cons, List.map_cons, zst_ref (r := r) (by omega)]
    have kk : ∀ (H1 : Heap) (locs1 : List Loc), va_P D zCl ((zws ad cA M).set (r - 7) (ad r, .inr (aux.getD 0 0, (zfs ad M r (aux.getD 0 0)).set (aux.getD 1 0) (.int x)))) H1 → va_D A ((zws ad cA M).set (r - 7) (ad r, .inr (aux.getD 0 0, (zfs ad M r (aux.getD 0 0)).set (aux.getD 1 0) (.int x)))) → va_S A s.heap H1 locs1 → W p l e R s m args below meth c H1 locs1 (M.1.1 - M0.1.1) (M.1.2.1 - M0.1.2.1) Q (F0 m (pc + 3) L (st.map (zv fv ad))) := by
      intro H1 locs1 hP hD hS
      rw [← zws_sIf g1 g2 g3 hci (j := aux.getD 1 0) (x := x) (by rw [hN]; exact hj) (ht.trans (by omega))] at hP hD
      exact hk _ _ _ _ h2 ad H1 locs1 L had hn1 hn2 hwf hP hD hS hl
    have hft := ztc_fitB (ty := zTy (aux.getD 0 0) (aux.getD 1 0)) (ht.trans (by omega)) hg.2
    have hlen : aux.getD 1 0 < (zfs ad M r (aux.getD 0 0)).length := by rw [zfs_len, hN]; exact hj
    by_cases h4 : aux.getD 4 0 = 0
    · rw [if_pos h4] at hlk
      by_cases h5 : (q.2.1 (aux.getD 1 0)).2.2.2 = true
      · rw [if_pos h5] at hfin
        simp only [Bool.and_eq_true, decide_eq_true_eq] at hfin
        exact va_putF hx hb hts hin (zTy (aux.getD 0 0)) hty hnm hown hK hP hD hS (r - 7) hget hq (aux.getD 1 0) hj (hts _ hlk) (fun x hx => by rw [hown2] at hx; exact hx) h5 (hini hfin.1.1) (hown2.trans hfin.1.2) (hty _ hj) hft.1 hft.2 hlen hdg kk
      · exact va_put hx hb hts hin (zTy (aux.getD 0 0)) hty hnm hown hK hP hD hS (r - 7) hget hq (aux.getD 1 0) hj (hts _ hlk) (fun x hx => by rw [hown2] at hx; exact hx) (by simpa using h5) (hty _ hj) hft.1 hft.2 hlen hdg kk
    · rw [if_neg h4] at hlk
      have h5 : (q.2.1 (aux.getD 1 0)).2.2.2 = false := by
        cases hv : (q.2.1 (aux.getD 1 0)).2.2.2 with
        | false => rfl
        | true =>
          rw [if_pos hv] at hfin
          simp only [Bool.and_eq_true, decide_eq_true_eq] at hfin
          exact absurd hfin.2 h4
      exact va_putN hx hb hts hin (zTy (aux.getD 0 0)) hty hnm hown hK hP hD hS (r - 7) hget hq (aux.getD 1 0) hj (hts _ hlk) (fun x hx => by rw [hown2] at hx; exact hx) h5 (hty _ hj) hft.1 hft.2 hlen hdg kk
  · rw [if_neg hb3] at h ht
    by_cases h0 : aux.getD 2 0 = 0
    · rw [if_pos h0] at h
      obtain ⟨x, st, rfl, h3⟩ := pI_some h
      obtain ⟨r, st, rfl, h4⟩ := pA_some h3
      obtain ⟨hg, h2⟩ := ite_some h4
      clear h h3 h4
      have hg : gK M r = aux.getD 0 0 := hg
      intro ad H locs L had hn1 hn2 hwf hP hD hS hl
      obtain ⟨g1, g2, g3⟩ := zgk hg (by omega) (by omega) (by omega)
      have hget := zws_get (ad := ad) (cA := cA) g1 g2
      rw [zce_obj g3 hci] at hget
      rw [List.map_cons, List.map_cons, zst_ref (r := r) (by omega)]
      have kk : ∀ (H1 : Heap) (locs1 : List Loc), va_P D zCl ((zws ad cA M).set (r - 7) (ad r, .inr (aux.getD 0 0, (zfs ad M r (aux.getD 0 0)).set (aux.getD 1 0) (.int x)))) H1 → va_D A ((zws ad cA M).set (r - 7) (ad r, .inr (aux.getD 0 0, (zfs ad M r (aux.getD 0 0)).set (aux.getD 1 0) (.int x)))) → va_S A s.heap H1 locs1 → W p l e R s m args below meth c H1 locs1 (M.1.1 - M0.1.1) (M.1.2.1 - M0.1.2.1) Q (F0 m (pc + 3) L (st.map (zv fv ad))) := by
        intro H1 locs1 hP hD hS
        rw [← zws_sIf g1 g2 g3 hci (j := aux.getD 1 0) (x := x) (by rw [hN]; exact hj) (ht.trans (by omega))] at hP hD
        exact hk _ _ _ _ h2 ad H1 locs1 L had hn1 hn2 hwf hP hD hS hl
      have hft := ztc_fit0 (ty := zTy (aux.getD 0 0) (aux.getD 1 0)) (ht.trans (by omega)) (fun q => by have := hbo q; omega) x
      have hlen : aux.getD 1 0 < (zfs ad M r (aux.getD 0 0)).length := by rw [zfs_len, hN]; exact hj
      by_cases h4 : aux.getD 4 0 = 0
      · rw [if_pos h4] at hlk
        by_cases h5 : (q.2.1 (aux.getD 1 0)).2.2.2 = true
        · rw [if_pos h5] at hfin
          simp only [Bool.and_eq_true, decide_eq_true_eq] at hfin
          exact va_putF hx hb hts hin (zTy (aux.getD 0 0)) hty hnm hown hK hP hD hS (r - 7) hget hq (aux.getD 1 0) hj (hts _ hlk) (fun x hx => by rw [hown2] at hx; exact hx) h5 (hini hfin.1.1) (hown2.trans hfin.1.2) (hty _ hj) hft.1 hft.2 hlen hdg kk
        · exact va_put hx hb hts hin (zTy (aux.getD 0 0)) hty hnm hown hK hP hD hS (r - 7) hget hq (aux.getD 1 0) hj (hts _ hlk) (fun x hx => by rw [hown2] at hx; exact hx) (by simpa using h5) (hty _ hj) hft.1 hft.2 hlen hdg kk
      · rw [if_neg h4] at hlk
        have h5 : (q.2.1 (aux.getD 1 0)).2.2.2 = false := by
          cases hv : (q.2.1 (aux.getD 1 0)).2.2.2 with
          | false => rfl
          | true =>
            rw [if_pos hv] at hfin
            simp only [Bool.and_eq_true, decide_eq_true_eq] at hfin
            exact absurd hfin.2 h4
        exact va_putN hx hb hts hin (zTy (aux.getD 0 0)) hty hnm hown hK hP hD hS (r - 7) hget hq (aux.getD 1 0) hj (hts _ hlk) (fun x hx => by rw [hown2] at hx; exact hx) h5 (hty _ hj) hft.1 hft.2 hlen hdg kk
    · rw [if_neg h0] at h
      by_cases h1 : aux.getD 2 0 = 1
      · rw [if_pos h1] at h
        obtain ⟨x, st, rfl, h3⟩ := pL_some h
        obtain ⟨r, st, rfl, h4⟩ := pA_some h3
        obtain ⟨hg, h2⟩ := ite_some h4
        clear h h3 h4
        have hg : gK M r = aux.getD 0 0 := hg
        intro ad H locs L had hn1 hn2 hwf hP hD hS hl
        obtain ⟨g1, g2, g3⟩ := zgk hg (by omega) (by omega) (by omega)
        have hget := zws_get (ad := ad) (cA := cA) g1 g2
        rw [zce_obj g3 hci] at hget
        rw [List.map_cons, List.map_cons, zst_ref (r := r) (by omega)]
        have kk : ∀ (H1 : Heap) (locs1 : List Loc), va_P D zCl ((zws ad cA M).set (r - 7) (ad r, .inr (aux.getD 0 0, (zfs ad M r (aux.getD 0 0)).set (aux.getD 1 0) (.long x)))) H1 → va_D A ((zws ad cA M).set (r - 7) (ad r, .inr (aux.getD 0 0, (zfs ad M r (aux.getD 0 0)).set (aux.getD 1 0) (.long x)))) → va_S A s.heap H1 locs1 → W p l e R s m args below meth c H1 locs1 (M.1.1 - M0.1.1) (M.1.2.1 - M0.1.2.1) Q (F0 m (pc + 3) L (st.map (zv fv ad))) := by
          intro H1 locs1 hP hD hS
          rw [← zws_sLf g1 g2 g3 hci (j := aux.getD 1 0) (x := x) (by rw [hN]; exact hj) (ht.trans (by omega))] at hP hD
          exact hk _ _ _ _ h2 ad H1 locs1 L had hn1 hn2 hwf hP hD hS hl
        have hft := ztc_fit1 (ty := zTy (aux.getD 0 0) (aux.getD 1 0)) (ht.trans (by omega)) x
        have hlen : aux.getD 1 0 < (zfs ad M r (aux.getD 0 0)).length := by rw [zfs_len, hN]; exact hj
        by_cases h4 : aux.getD 4 0 = 0
        · rw [if_pos h4] at hlk
          by_cases h5 : (q.2.1 (aux.getD 1 0)).2.2.2 = true
          · rw [if_pos h5] at hfin
            simp only [Bool.and_eq_true, decide_eq_true_eq] at hfin
            exact va_putF hx hb hts hin (zTy (aux.getD 0 0)) hty hnm hown hK hP hD hS (r - 7) hget hq (aux.getD 1 0) hj (hts _ hlk) (fun x hx => by rw [hown2] at hx; exact hx) h5 (hini hfin.1.1) (hown2.trans hfin.1.2) (hty _ hj) hft.1 hft.2 hlen hdg kk
          · exact va_put hx hb hts hin (zTy (aux.getD 0 0)) hty hnm hown hK hP hD hS (r - 7) hget hq (aux.getD 1 0) hj (hts _ hlk) (fun x hx => by rw [hown2] at hx; exact hx) (by simpa using h5) (hty _ hj) hft.1 hft.2 hlen hdg kk
        · rw [if_neg h4] at hlk
          have h5 : (q.2.1 (aux.getD 1 0)).2.2.2 = false := by
            cases hv : (q.2.1 (aux.getD 1 0)).2.2.2 with
            | false => rfl
            | true =>
              rw [if_pos hv] at hfin
              simp only [Bool.and_eq_true, decide_eq_true_eq] at hfin
              exact absurd hfin.2 h4
          exact va_putN hx hb hts hin (zTy (aux.getD 0 0)) hty hnm hown hK hP hD hS (r - 7) hget hq (aux.getD 1 0) hj (hts _ hlk) (fun x hx => by rw [hown2] at hx; exact hx) h5 (hty _ hj) hft.1 hft.2 hlen hdg kk
      · rw [if_neg h1] at h
        obtain ⟨x, st, rfl, h3⟩ := pA_some h
        obtain ⟨r, st, rfl, h4⟩ := pA_some h3
        obtain ⟨hg, h2⟩ := ite_some h4
        clear h h3 h4
        have hg : gK M r = aux.getD 0 0 ∧ x < M.1.1 + 7 := hg
        intro ad H locs L had hn1 hn2 hwf hP hD hS hl
        obtain ⟨g1, g2, g3⟩ := zgk hg.1 (by omega) (by omega) (by omega)
        have hget := zws_get (ad := ad) (cA := cA) g1 g2
        rw [zce_obj g3 hci] at hget
        rw [List.map_cons, List.map_cons, zst_ref (r := r) (by omega)]
        have kk : ∀ (H1 : Heap) (locs1 : List Loc), va_P D zCl ((zws ad cA M).set (r - 7) (ad r, .inr (aux.getD 0 0, (zfs ad M r (aux.getD 0 0)).set (aux.getD 1 0) (rfv ad x)))) H1 → va_D A ((zws ad cA M).set (r - 7) (ad r, .inr (aux.getD 0 0, (zfs ad M r (aux.getD 0 0)).set (aux.getD 1 0) (rfv ad x)))) → va_S A s.heap H1 locs1 → W p l e R s m args below meth c H1 locs1 (M.1.1 - M0.1.1) (M.1.2.1 - M0.1.2.1) Q (F0 m (pc + 3) L (st.map (zv fv ad))) := by
          intro H1 locs1 hP hD hS
          rw [← zws_sRf g1 g2 g3 hci (j := aux.getD 1 0) (x := x) (by rw [hN]; exact hj) (ht.trans (by omega))] at hP hD
          exact hk _ _ _ _ h2 ad H1 locs1 L had hn1 hn2 (zwf_sR hwf hg.2) hP hD hS hl
        have hft := ztc_fit2 (ty := zTy (aux.getD 0 0) (aux.getD 1 0)) (ht.trans (by omega)) ad x
        have hlen : aux.getD 1 0 < (zfs ad M r (aux.getD 0 0)).length := by rw [zfs_len, hN]; exact hj
        by_cases h4 : aux.getD 4 0 = 0
        · rw [if_pos h4] at hlk
          by_cases h5 : (q.2.1 (aux.getD 1 0)).2.2.2 = true
          · rw [if_pos h5] at hfin
            simp only [Bool.and_eq_true, decide_eq_true_eq] at hfin
            exact va_putF hx hb hts hin (zTy (aux.getD 0 0)) hty hnm hown hK hP hD hS (r - 7) hget hq (aux.getD 1 0) hj (hts _ hlk) (fun x hx => by rw [hown2] at hx; exact hx) h5 (hini hfin.1.1) (hown2.trans hfin.1.2) (hty _ hj) hft.1 hft.2 hlen hdg kk
          · exact va_put hx hb hts hin (zTy (aux.getD 0 0)) hty hnm hown hK hP hD hS (r - 7) hget hq (aux.getD 1 0) hj (hts _ hlk) (fun x hx => by rw [hown2] at hx; exact hx) (by simpa using h5) (hty _ hj) hft.1 hft.2 hlen hdg kk
        · rw [if_neg h4] at hlk
          have h5 : (q.2.1 (aux.getD 1 0)).2.2.2 = false := by
            cases hv : (q.2.1 (aux.getD 1 0)).2.2.2 with
            | false => rfl
            | true =>
              rw [if_pos hv] at hfin
              simp only [Bool.and_eq_true, decide_eq_true_eq] at hfin
              exact absurd hfin.2 h4
          exact va_putN hx hb hts hin (zTy (aux.getD 0 0)) hty hnm hown hK hP hD hS (r - 7) hget hq (aux.getD 1 0) hj (hts _ hlk) (fun x hx => by rw [hown2] at hx; exact hx) h5 (hty _ hj) hft.1 hft.2 hlen hdg kk
theorem ss_getstatic {p : Program} {l : Launch} {e : Env} {R : Room} {s : State} {m : MethodId} {args : Array Value} {below : List Frame} {meth : Method} {c : Code} {own : String} {cc : ByteArray} {nL : Nat} {ini : Bool} {D : va_G} {cA : Nat → ClassId} {fv : Value} {A : Nat → Prop} {ad0 : Nat → Nat} {d : Nat} {Q : State → Prop} {rr : zR} {M0 : zM} {rt : Option FieldType} {sc : Option (Nat × (Nat → Int32))} {cal : zC} {k : zK}
    (C : zCx p R s m args meth c own cc nL ini D cA fv A ad0 d) (hk : ∀ pc' ls' st' M', k pc' ls' st' M' = some rr → zW p l e R s m args below meth c Q D cA fv A ad0 M0 nL pc' ls' st' M') {pc nxt : Nat} {aux : List Nat} {ld : Option (List Nat)} {ls : zLs} {st : List Value} {M : zM} {i : Nat} 
    (hok : zOk own cc nL rt ini (pc, .getstatic i, nxt, aux, ld) = true) (h : stp sc cal (pc, .getstatic i, nxt, aux, ld) ls st M k = some rr) : zW p l e R s m args below meth c Q D cA fv A ad0 M0 nL pc ls st M := by
  obtain ⟨hx, hb, hml, hown, hts, hK, hA, hini, hX, hfv, hfr, hlo⟩ := C
  obtain ⟨hdg, rfl, hc⟩ := zchk_of2 hok
  have hc : (if aux.getD 0 0 = 0 then _ else _) = true := hc
  have h : (if aux.getD 0 0 = 0 then k (pc + 3) ls (.int 1 :: st) M else k (pc + 3) ls (.retAddr 0 :: st) M) = some rr := h
  by_cases h0 : aux.getD 0 0 = 0
  · rw [if_pos h0] at h hc
    intro ad H locs L had hn1 hn2 hwf hP hD hS hl
    refine va_gets hx hb hX.2.2.2.1 hS hown (hts _ (zwd_in hc)) (fun _ z => z) hdg ?_
    exact hk _ _ _ _ h ad H locs L had hn1 hn2 hwf hP hD hS hl
  · rw [if_neg h0] at h hc
    intro ad H locs L had hn1 hn2 hwf hP hD hS hl
    refine va_gets hx hb hX.2.2.2.2 hS hown (hts _ (zwd_in hc)) (fun _ z => z) hdg ?_
    exact hk _ _ _ _ h ad H locs L had hn1 hn2 hwf hP hD hS hl
