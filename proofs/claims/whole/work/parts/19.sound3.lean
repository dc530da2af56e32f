/-! THE PURE MACHINE SAYS THE TRUTH, on: arrays and makings -/
theorem ztys_at (cA : Nat → ClassId) : (ztys cA)[0]? = some (cA 20, .int) ∧ (ztys cA)[1]? = some (cA 21, .byte) ∧ (ztys cA)[2]? = some (cA 22, .boolean) ∧ (ztys cA)[3]? = some (cA 23, .long) ∧ (ztys cA)[4]? = some (cA 24, .object "SilkRise$State") ∧ (ztys cA)[5]? = some (cA 25, .array .int) := ⟨rfl, rfl, rfl, rfl, rfl, rfl⟩
theorem ss_iaload {p : Program} {l : Launch} {e : Env} {R : Room} {s : State} {m : MethodId} {args : Array Value} {below : List Frame} {meth : Method} {c : Code} {own : String} {cc : ByteArray} {nL : Nat} {ini : Bool} {D : va_G} {cA : Nat → ClassId} {fv : Value} {A : Nat → Prop} {ad0 : Nat → Nat} {d : Nat} {Q : State → Prop} {rr : zR} {M0 : zM} {rt : Option FieldType} {sc : Option (Nat × (Nat → Int32))} {cal : zC} {k : zK}
    (C : zCx p R s m args meth c own cc nL ini D cA fv A ad0 d) (hk : ∀ pc' ls' st' M', k pc' ls' st' M' = some rr → zW p l e R s m args below meth c Q D cA fv A ad0 M0 nL pc' ls' st' M') {pc nxt : Nat} {aux : List Nat} {ld : Option (List Nat)} {ls : zLs} {st : List Value} {M : zM} (hsc : ∀ L xs, sc = some (L, xs) → va_X (ad0 1) L xs s s.heap ∧ ad0 1 < s.heap.size ∧ ¬ A (ad0 1))
    (hok : zOk own cc nL rt ini (pc, .iaload, nxt, aux, ld) = true) (h : stp sc cal (pc, .iaload, nxt, aux, ld) ls st M k = some rr) : zW p l e R s m args below meth c Q D cA fv A ad0 M0 nL pc ls st M := by
  obtain ⟨hx, hb, hml, hown, hts, hK, hA, hini, hX, hfv, hfr, hlo⟩ := C
  obtain ⟨hdg, rfl⟩ := zchk_of hok
  have h : (if aux.getD 0 0 = 40 then pS sc (fun L xs => pI st fun i st => pA st fun r st => if r = 1 ∧ zin i L then k (pc + 1) ls (.int (xs (zix i)) :: st) M else none) else pI st fun i st => pA st fun r st => if gK M r = 20 ∧ zin i (gN M r) then k (pc + 1) ls (.int (gI M r (zix i)) :: st) M else none) = some rr := h
  by_cases h4 : aux.getD 0 0 = 40
  · rw [if_pos h4] at h
    obtain ⟨sl, xs, hs, h1⟩ := pS_some h
    obtain ⟨i, st, rfl, h3⟩ := pI_some h1
    obtain ⟨r, st, rfl, h5⟩ := pA_some h3
    obtain ⟨hg, h2⟩ := ite_some h5
    clear h h1 h3 h5
    obtain ⟨y1, y2, y3⟩ := hsc sl xs hs
    intro ad H locs L had hn1 hn2 hwf hP hD hS hl
    rw [List.map_cons, List.map_cons, zst_ref (r := r) (by omega), hg.1, had 1 (Or.inl (by omega))]
    refine va_sld hx hb y1 y2 y3 hS (zin_vp hg.2) hdg ?_
    exact hk _ _ _ _ h2 ad H locs L had hn1 hn2 hwf hP hD hS hl
  · rw [if_neg h4] at h
    obtain ⟨i, st, rfl, h3⟩ := pI_some h
    obtain ⟨r, st, rfl, h5⟩ := pA_some h3
    obtain ⟨hg, h2⟩ := ite_some h5
    clear h h3 h5
    intro ad H locs L had hn1 hn2 hwf hP hD hS hl
    obtain ⟨g1, g2, g3⟩ := zgk hg.1 (by omega) (by omega) (by omega)
    have hget := zws_get (ad := ad) (cA := cA) g1 g2
    rw [zce_int g3 (by omega)] at hget
    rw [List.map_cons, List.map_cons, zst_ref (r := r) (by omega)]
    refine va_iald hx hb hK hP (r - 7) 0 hget rfl (zin_vp hg.2) hdg ?_
    exact hk _ _ _ _ h2 ad H locs L had hn1 hn2 hwf hP hD hS hl
theorem ss_laload {p : Program} {l : Launch} {e : Env} {R : Room} {s : State} {m : MethodId} {args : Array Value} {below : List Frame} {meth : Method} {c : Code} {own : String} {cc : ByteArray} {nL : Nat} {ini : Bool} {D : va_G} {cA : Nat → ClassId} {fv : Value} {A : Nat → Prop} {ad0 : Nat → Nat} {d : Nat} {Q : State → Prop} {rr : zR} {M0 : zM} {rt : Option FieldType} {sc : Option (Nat × (Nat → Int32))} {cal : zC} {k : zK}
    (C : zCx p R s m args meth c own cc nL ini D cA fv A ad0 d) (hk : ∀ pc' ls' st' M', k pc' ls' st' M' = some rr → zW p l e R s m args below meth c Q D cA fv A ad0 M0 nL pc' ls' st' M') {pc nxt : Nat} {aux : List Nat} {ld : Option (List Nat)} {ls : zLs} {st : List Value} {M : zM} 
    (hok : zOk own cc nL rt ini (pc, .laload, nxt, aux, ld) = true) (h : stp sc cal (pc, .laload, nxt, aux, ld) ls st M k = some rr) : zW p l e R s m args below meth c Q D cA fv A ad0 M0 nL pc ls st M := by
  obtain ⟨hx, hb, hml, hown, hts, hK, hA, hini, hX, hfv, hfr, hlo⟩ := C
  obtain ⟨hdg, rfl⟩ := zchk_of hok
  obtain ⟨i, st, rfl, h3⟩ := pI_some h
  obtain ⟨r, st, rfl, h5⟩ := pA_some h3
  obtain ⟨hg, h2⟩ := ite_some h5
  clear h h3 h5
  intro ad H locs L had hn1 hn2 hwf hP hD hS hl
  obtain ⟨g1, g2, g3⟩ := zgk hg.1 (by omega) (by omega) (by omega)
  have hget := zws_get (ad := ad) (cA := cA) g1 g2
  rw [zce_long g3] at hget
  rw [List.map_cons, List.map_cons, zst_ref (r := r) (by omega)]
  refine va_lald hx hb hK hP (r - 7) 3 hget rfl (zin_vp hg.2) hdg ?_
  exact hk _ _ _ _ h2 ad H locs L had hn1 hn2 hwf hP hD hS hl
theorem ss_baload {p : Program} {l : Launch} {e : Env} {R : Room} {s : State} {m : MethodId} {args : Array Value} {below : List Frame} {meth : Method} {c : Code} {own : String} {cc : ByteArray} {nL : Nat} {ini : Bool} {D : va_G} {cA : Nat → ClassId} {fv : Value} {A : Nat → Prop} {ad0 : Nat → Nat} {d : Nat} {Q : State → Prop} {rr : zR} {M0 : zM} {rt : Option FieldType} {sc : Option (Nat × (Nat → Int32))} {cal : zC} {k : zK}
    (C : zCx p R s m args meth c own cc nL ini D cA fv A ad0 d) (hk : ∀ pc' ls' st' M', k pc' ls' st' M' = some rr → zW p l e R s m args below meth c Q D cA fv A ad0 M0 nL pc' ls' st' M') {pc nxt : Nat} {aux : List Nat} {ld : Option (List Nat)} {ls : zLs} {st : List Value} {M : zM} 
    (hok : zOk own cc nL rt ini (pc, .baload, nxt, aux, ld) = true) (h : stp sc cal (pc, .baload, nxt, aux, ld) ls st M k = some rr) : zW p l e R s m args below meth c Q D cA fv A ad0 M0 nL pc ls st M := by
  obtain ⟨hx, hb, hml, hown, hts, hK, hA, hini, hX, hfv, hfr, hlo⟩ := C
  obtain ⟨hdg, rfl, hc⟩ := zchk_of2 hok
  have hc : aux.getD 0 0 = 21 ∨ aux.getD 0 0 = 22 ∨ aux.getD 0 0 = 31 := of_decide_eq_true hc
  have h : (if aux.getD 0 0 = 31 then pI st fun i st => pA st fun r st => if gK M r = 31 ∧ zin i (zby r).length then k (pc + 1) ls (.int ((zby r).getD (zix i) 0) :: st) M else none else pI st fun i st => pA st fun r st => if gK M r = aux.getD 0 0 ∧ zin i (gN M r) then k (pc + 1) ls (.int (gI M r (zix i)) :: st) M else none) = some rr := h
  by_cases h4 : aux.getD 0 0 = 31
  · rw [if_pos h4] at h
    obtain ⟨i, st, rfl, h3⟩ := pI_some h
    obtain ⟨r, st, rfl, h5⟩ := pA_some h3
    obtain ⟨hg, h2⟩ := ite_some h5
    clear h h3 h5
    intro ad H locs L had hn1 hn2 hwf hP hD hS hl
    have hr := zgk31 hg.1 (fun a => by have := hwf.2 a; omega)
    have hq := hk _ _ _ _ h2 ad H locs L had hn1 hn2 hwf hP hD hS hl
    rw [List.map_cons, List.map_cons, zst_ref (r := r) (by omega), had r (Or.inl (by omega))]
    rcases hr with rfl | rfl
    · exact va_tb hx hb (hX.1.1 0 (by omega)).2.2.2 hS (zin_vp (n := 112) hg.2) rfl hdg hq
    · exact va_tb hx hb (hX.1.1 1 (by omega)).2.2.2 hS (zin_vp (n := 9) hg.2) rfl hdg hq
  · rw [if_neg h4] at h
    obtain ⟨i, st, rfl, h3⟩ := pI_some h
    obtain ⟨r, st, rfl, h5⟩ := pA_some h3
    obtain ⟨hg, h2⟩ := ite_some h5
    clear h h3 h5
    have hc : aux.getD 0 0 = 21 ∨ aux.getD 0 0 = 22 := by omega
    intro ad H locs L had hn1 hn2 hwf hP hD hS hl
    obtain ⟨g1, g2, g3⟩ := zgk hg.1 (by omega) (by omega) (by omega)
    have hget := zws_get (ad := ad) (cA := cA) g1 g2
    rw [zce_int g3 (by omega)] at hget
    rw [List.map_cons, List.map_cons, zst_ref (r := r) (by omega)]
    rcases hc with hc | hc
    · rw [hc] at hget
      refine va_bald hx hb hK hP (r - 7) 1 hget rfl (zin_vp hg.2) hdg ?_
      exact hk _ _ _ _ h2 ad H locs L had hn1 hn2 hwf hP hD hS hl
    · rw [hc] at hget
      refine va_zald hx hb hK hP (r - 7) 2 hget rfl (zin_vp hg.2) hdg ?_
      exact hk _ _ _ _ h2 ad H locs L had hn1 hn2 hwf hP hD hS hl
theorem zaf_rf {ad : Nat → Nat} {M : zM} {r j : Nat} : va_rf (zaf ad M r j) = rfv ad (gR M r j) := by
  unfold zaf rfv
  by_cases h : gR M r j = 0
  · rw [if_pos h, if_pos h]; rfl
  · rw [if_neg h, if_neg h]; rfl
/-- an int[][]'s row is read -/
theorem za_ald {p : Program} {l : Launch} {e : Env} {R : Room} {s : State} {m : MethodId} {args : Array Value} {below : List Frame} {meth : Method} {c : Code} {H : Heap} {locs : List Loc} {cells slots : Nat} {Q : State → Prop} {cc : ByteArray} {pc : Nat} {ls : Array Slot} {rest : List Value} {D : va_G} {cl : List vw_C} {a : Nat} {tys : List (ClassId × FieldType)} {ws : va_W} (hexec : p.tables.exec = Jvm.exec) (hb : c.code = cc) (hK : va_K D cl tys s) (hP : va_P D cl ws H) (q0 t0 : Nat) {cA : ClassId} {n : Nat} {f : Nat → Option Nat} (ha : ws[q0]? = some (a, .inl (cA, n, .inr (.inr (.inr (.inr f)))))) (ht : tys[t0]? = some (cA, .array .int)) {i : Int32} (hin : vp_in i n) (hdg : decode cc pc = .ok (.aaload, 1))
    (kk : W p l e R s m args below meth c H locs cells slots Q (F0 m (pc + 1) ls (va_rf (f i.toNatClampNeg) :: rest))) : W p l e R s m args below meth c H locs cells slots Q (F0 m pc ls (.int i :: .ref a :: rest)) := by
  have hlt : i.toNatClampNeg < n := Nat.not_le.mp fun q => hin (Or.inr q)
  exact W.aald (v := va_rf (f i.toNatClampNeg)) (ty := .array .int) hexec hb (hP q0 _ ha) ((hK.2 t0 _ ht).1 n (fun j => va_rf (f j))) rfl (fun q => by cases q) (by show ¬ (i < 0 ∨ (arrV _ _ _).slots.size ≤ _); rw [arrV_size]; exact hin) (by show (arrV _ _ _).slots[_]? = _; rw [arrV_read _ _ hlt]) rfl rfl hdg kk
theorem ss_aaload {p : Program} {l : Launch} {e : Env} {R : Room} {s : State} {m : MethodId} {args : Array Value} {below : List Frame} {meth : Method} {c : Code} {own : String} {cc : ByteArray} {nL : Nat} {ini : Bool} {D : va_G} {cA : Nat → ClassId} {fv : Value} {A : Nat → Prop} {ad0 : Nat → Nat} {d : Nat} {Q : State → Prop} {rr : zR} {M0 : zM} {rt : Option FieldType} {sc : Option (Nat × (Nat → Int32))} {cal : zC} {k : zK}
    (C : zCx p R s m args meth c own cc nL ini D cA fv A ad0 d) (hk : ∀ pc' ls' st' M', k pc' ls' st' M' = some rr → zW p l e R s m args below meth c Q D cA fv A ad0 M0 nL pc' ls' st' M') {pc nxt : Nat} {aux : List Nat} {ld : Option (List Nat)} {ls : zLs} {st : List Value} {M : zM} 
    (hok : zOk own cc nL rt ini (pc, .aaload, nxt, aux, ld) = true) (h : stp sc cal (pc, .aaload, nxt, aux, ld) ls st M k = some rr) : zW p l e R s m args below meth c Q D cA fv A ad0 M0 nL pc ls st M := by
  obtain ⟨hx, hb, hml, hown, hts, hK, hA, hini, hX, hfv, hfr, hlo⟩ := C
  obtain ⟨hdg, rfl, hc⟩ := zchk_of2 hok
  have hc : aux.getD 0 0 = 24 ∨ aux.getD 0 0 = 25 := of_decide_eq_true hc
  obtain ⟨i, st, rfl, h3⟩ := pI_some h
  obtain ⟨r, st, rfl, h5⟩ := pA_some h3
  obtain ⟨hg, h2⟩ := ite_some h5
  clear h h3 h5
  have hg : gK M r = aux.getD 0 0 ∧ zin i (gN M r) := hg
  intro ad H locs L had hn1 hn2 hwf hP hD hS hl
  obtain ⟨g1, g2, g3⟩ := zgk hg.1 (by omega) (by omega) (by omega)
  have hget := zws_get (ad := ad) (cA := cA) g1 g2
  rw [zce_refs g3 hc] at hget
  rw [List.map_cons, List.map_cons, zst_ref (r := r) (by omega)]
  have hq := hk _ _ _ _ h2 ad H locs L had hn1 hn2 hwf hP hD hS hl
  have hq : W p l e R s m args below meth c H locs (M.1.1 - M0.1.1) (M.1.2.1 - M0.1.2.1) Q (F0 m (pc + 1) L (va_rf (zaf ad M r (zix i)) :: st.map (zv fv ad))) := by rw [zaf_rf]; exact hq
  rcases hc with hc | hc
  · rw [hc] at hget
    exact va_aldq hx hb hK hP (r - 7) 4 hget rfl (zin_vp hg.2) hdg hq
  · rw [hc] at hget
    exact za_ald hx hb hK hP (r - 7) 5 hget rfl (zin_vp hg.2) hdg hq
theorem ss_iastore {p : Program} {l : Launch} {e : Env} {R : Room} {s : State} {m : MethodId} {args : Array Value} {below : List Frame} {meth : Method} {c : Code} {own : String} {cc : ByteArray} {nL : Nat} {ini : Bool} {D : va_G} {cA : Nat → ClassId} {fv : Value} {A : Nat → Prop} {ad0 : Nat → Nat} {d : Nat} {Q : State → Prop} {rr : zR} {M0 : zM} {rt : Option FieldType} {sc : Option (Nat × (Nat → Int32))} {cal : zC} {k : zK}
    (C : zCx p R s m args meth c own cc nL ini D cA fv A ad0 d) (hk : ∀ pc' ls' st' M', k pc' ls' st' M' = some rr → zW p l e R s m args below meth c Q D cA fv A ad0 M0 nL pc' ls' st' M') {pc nxt : Nat} {aux : List Nat} {ld : Option (List Nat)} {ls : zLs} {st : List Value} {M : zM} 
    (hok : zOk own cc nL rt ini (pc, .iastore, nxt, aux, ld) = true) (h : stp sc cal (pc, .iastore, nxt, aux, ld) ls st M k = some rr) : zW p l e R s m args below meth c Q D cA fv A ad0 M0 nL pc ls st M := by
  obtain ⟨hx, hb, hml, hown, hts, hK, hA, hini, hX, hfv, hfr, hlo⟩ := C
  obtain ⟨hdg, rfl⟩ := zchk_of hok
  obtain ⟨x, st, rfl, h1⟩ := pI_some h
  obtain ⟨i, st, rfl, h3⟩ := pI_some h1
  obtain ⟨r, st, rfl, h5⟩ := pA_some h3
  obtain ⟨hg, h2⟩ := ite_some h5
  clear h h1 h3 h5
  intro ad H locs L had hn1 hn2 hwf hP hD hS hl
  obtain ⟨g1, g2, g3⟩ := zgk hg.1 (by omega) (by omega) (by omega)
  have hget := zws_get (ad := ad) (cA := cA) g1 g2
  rw [zce_int g3 (by omega)] at hget
  rw [List.map_cons, List.map_cons, List.map_cons, zst_ref (r := r) (by omega)]
  refine va_iast hx hb hK hP hD hS (r - 7) 0 hget rfl (zin_vp hg.2) hdg (fun H1 locs1 hP hD hS => ?_)
  rw [← zws_sIa (j := i.toNatClampNeg) (x := x) g1 g2 g3 (by omega)] at hP hD
  exact hk _ _ _ _ h2 ad H1 locs1 L had hn1 hn2 hwf hP hD hS hl
theorem ss_lastore {p : Program} {l : Launch} {e : Env} {R : Room} {s : State} {m : MethodId} {args : Array Value} {below : List Frame} {meth : Method} {c : Code} {own : String} {cc : ByteArray} {nL : Nat} {ini : Bool} {D : va_G} {cA : Nat → ClassId} {fv : Value} {A : Nat → Prop} {ad0 : Nat → Nat} {d : Nat} {Q : State → Prop} {rr : zR} {M0 : zM} {rt : Option FieldType} {sc : Option (Nat × (Nat → Int32))} {cal : zC} {k : zK}
    (C : zCx p R s m args meth c own cc nL ini D cA fv A ad0 d) (hk : ∀ pc' ls' st' M', k pc' ls' st' M' = some rr → zW p l e R s m args below meth c Q D cA fv A ad0 M0 nL pc' ls' st' M') {pc nxt : Nat} {aux : List Nat} {ld : Option (List Nat)} {ls : zLs} {st : List Value} {M : zM} 
    (hok : zOk own cc nL rt ini (pc, .lastore, nxt, aux, ld) = true) (h : stp sc cal (pc, .lastore, nxt, aux, ld) ls st M k = some rr) : zW p l e R s m args below meth c Q D cA fv A ad0 M0 nL pc ls st M := by
  obtain ⟨hx, hb, hml, hown, hts, hK, hA, hini, hX, hfv, hfr, hlo⟩ := C
  obtain ⟨hdg, rfl⟩ := zchk_of hok
  obtain ⟨x, st, rfl, h1⟩ := pL_some h
  obtain ⟨i, st, rfl, h3⟩ := pI_some h1
  obtain ⟨r, st, rfl, h5⟩ := pA_some h3
  obtain ⟨hg, h2⟩ := ite_some h5
  clear h h1 h3 h5
  intro ad H locs L had hn1 hn2 hwf hP hD hS hl
  obtain ⟨g1, g2, g3⟩ := zgk hg.1 (by omega) (by omega) (by omega)
  have hget := zws_get (ad := ad) (cA := cA) g1 g2
  rw [zce_long g3] at hget
  rw [List.map_cons, List.map_cons, List.map_cons, zst_ref (r := r) (by omega)]
  refine va_last hx hb hK hP hD hS (r - 7) 3 hget rfl (zin_vp hg.2) hdg (fun H1 locs1 hP hD hS => ?_)
  rw [← zws_sLa (j := i.toNatClampNeg) (x := x) g1 g2 g3] at hP hD
  exact hk _ _ _ _ h2 ad H1 locs1 L had hn1 hn2 hwf hP hD hS hl
theorem zc_bool (x : Int32) : vp_nar .boolean x = x &&& 1 := rfl
theorem ss_bastore {p : Program} {l : Launch} {e : Env} {R : Room} {s : State} {m : MethodId} {args : Array Value} {below : List Frame} {meth : Method} {c : Code} {own : String} {cc : ByteArray} {nL : Nat} {ini : Bool} {D : va_G} {cA : Nat → ClassId} {fv : Value} {A : Nat → Prop} {ad0 : Nat → Nat} {d : Nat} {Q : State → Prop} {rr : zR} {M0 : zM} {rt : Option FieldType} {sc : Option (Nat × (Nat → Int32))} {cal : zC} {k : zK}
    (C : zCx p R s m args meth c own cc nL ini D cA fv A ad0 d) (hk : ∀ pc' ls' st' M', k pc' ls' st' M' = some rr → zW p l e R s m args below meth c Q D cA fv A ad0 M0 nL pc' ls' st' M') {pc nxt : Nat} {aux : List Nat} {ld : Option (List Nat)} {ls : zLs} {st : List Value} {M : zM} 
    (hok : zOk own cc nL rt ini (pc, .bastore, nxt, aux, ld) = true) (h : stp sc cal (pc, .bastore, nxt, aux, ld) ls st M k = some rr) : zW p l e R s m args below meth c Q D cA fv A ad0 M0 nL pc ls st M := by
  obtain ⟨hx, hb, hml, hown, hts, hK, hA, hini, hX, hfv, hfr, hlo⟩ := C
  obtain ⟨hdg, rfl⟩ := zchk_of hok
  have h : (if aux.getD 0 0 = 21 then _ else _) = some rr := h
  by_cases h4 : aux.getD 0 0 = 21
  · rw [if_pos h4] at h
    obtain ⟨x, st, rfl, h1⟩ := pI_some h
    obtain ⟨i, st, rfl, h3⟩ := pI_some h1
    obtain ⟨r, st, rfl, h5⟩ := pA_some h3
    obtain ⟨hg, h2⟩ := ite_some h5
    clear h h1 h3 h5
    intro ad H locs L had hn1 hn2 hwf hP hD hS hl
    obtain ⟨g1, g2, g3⟩ := zgk hg.1 (by omega) (by omega) (by omega)
    have hget := zws_get (ad := ad) (cA := cA) g1 g2
    rw [zce_int g3 (by omega)] at hget
    rw [List.map_cons, List.map_cons, List.map_cons, zst_ref (r := r) (by omega)]
    refine va_bast hx hb hK hP hD hS (r - 7) 1 hget rfl (zin_vp hg.2) hdg (fun H1 locs1 hP hD hS => ?_)
    rw [← zws_sIa (j := i.toNatClampNeg) g1 g2 g3 (by omega)] at hP hD
    exact hk _ _ _ _ h2 ad H1 locs1 L had hn1 hn2 hwf hP hD hS hl
  · rw [if_neg h4] at h
    obtain ⟨x, st, rfl, h1⟩ := pI_some h
    obtain ⟨i, st, rfl, h3⟩ := pI_some h1
    obtain ⟨r, st, rfl, h5⟩ := pA_some h3
    obtain ⟨hg, h2⟩ := ite_some h5
    clear h h1 h3 h5
    intro ad H locs L had hn1 hn2 hwf hP hD hS hl
    obtain ⟨g1, g2, g3⟩ := zgk hg.1 (by omega) (by omega) (by omega)
    have hget := zws_get (ad := ad) (cA := cA) g1 g2
    rw [zce_int g3 (by omega)] at hget
    rw [List.map_cons, List.map_cons, List.map_cons, zst_ref (r := r) (by omega)]
    refine va_zast hx hb hK hP hD hS (r - 7) 2 hget rfl (zin_vp hg.2) hdg (fun H1 locs1 hP hD hS => ?_)
    rw [← zws_sIa (j := i.toNatClampNeg) g1 g2 g3 (by omega)] at hP hD
    exact hk _ _ _ _ h2 ad H1 locs1 L had hn1 hn2 hwf hP hD hS hl
theorem ss_aastore {p : Program} {l : Launch} {e : Env} {R : Room} {s : State} {m : MethodId} {args : Array Value} {below : List Frame} {meth : Method} {c : Code} {own : String} {cc : ByteArray} {nL : Nat} {ini : Bool} {D : va_G} {cA : Nat → ClassId} {fv : Value} {A : Nat → Prop} {ad0 : Nat → Nat} {d : Nat} {Q : State → Prop} {rr : zR} {M0 : zM} {rt : Option FieldType} {sc : Option (Nat × (Nat → Int32))} {cal : zC} {k : zK}
    (C : zCx p R s m args meth c own cc nL ini D cA fv A ad0 d) (hk : ∀ pc' ls' st' M', k pc' ls' st' M' = some rr → zW p l e R s m args below meth c Q D cA fv A ad0 M0 nL pc' ls' st' M') {pc nxt : Nat} {aux : List Nat} {ld : Option (List Nat)} {ls : zLs} {st : List Value} {M : zM} 
    (hok : zOk own cc nL rt ini (pc, .aastore, nxt, aux, ld) = true) (h : stp sc cal (pc, .aastore, nxt, aux, ld) ls st M k = some rr) : zW p l e R s m args below meth c Q D cA fv A ad0 M0 nL pc ls st M := by
  obtain ⟨hx, hb, hml, hown, hts, hK, hA, hini, hX, hfv, hfr, hlo⟩ := C
  obtain ⟨hdg, rfl⟩ := zchk_of hok
  obtain ⟨x, st, rfl, h1⟩ := pA_some h
  obtain ⟨i, st, rfl, h3⟩ := pI_some h1
  obtain ⟨r, st, rfl, h5⟩ := pA_some h3
  obtain ⟨hg, h2⟩ := ite_some h5
  clear h h1 h3 h5
  intro ad H locs L had hn1 hn2 hwf hP hD hS hl
  obtain ⟨g1, g2, g3⟩ := zgk hg.1 (by omega) (by omega) (by omega)
  obtain ⟨f1, f2, f3⟩ := zgk hg.2.2 (by omega) (by omega) (by omega)
  have hget := zws_get (ad := ad) (cA := cA) g1 g2
  rw [zce_refs g3 (by omega)] at hget
  have hgx := zws_get (ad := ad) (cA := cA) f1 f2
  rw [zce_obj f3 (by omega)] at hgx
  rw [List.map_cons, List.map_cons, List.map_cons, zst_ref (r := r) (by omega), zst_ref (r := x) (by omega)]
  refine va_astq hx hb hK hP hD hS (r - 7) 4 (x - 7) 8 hget (r := (RX8, TX8, 6)) rfl hgx rfl (zin_vp hg.2.1) hdg (fun H1 locs1 hP hD hS => ?_)
  rw [← zws_sRa (j := i.toNatClampNeg) (x := x) g1 g2 g3 (by omega) (by omega)] at hP hD
  exact hk _ _ _ _ h2 ad H1 locs1 L had hn1 hn2 (zwf_sR hwf f2) hP hD hS hl
theorem ss_arraylength {p : Program} {l : Launch} {e : Env} {R : Room} {s : State} {m : MethodId} {args : Array Value} {below : List Frame} {meth : Method} {c : Code} {own : String} {cc : ByteArray} {nL : Nat} {ini : Bool} {D : va_G} {cA : Nat → ClassId} {fv : Value} {A : Nat → Prop} {ad0 : Nat → Nat} {d : Nat} {Q : State → Prop} {rr : zR} {M0 : zM} {rt : Option FieldType} {sc : Option (Nat × (Nat → Int32))} {cal : zC} {k : zK}
    (C : zCx p R s m args meth c own cc nL ini D cA fv A ad0 d) (hk : ∀ pc' ls' st' M', k pc' ls' st' M' = some rr → zW p l e R s m args below meth c Q D cA fv A ad0 M0 nL pc' ls' st' M') {pc nxt : Nat} {aux : List Nat} {ld : Option (List Nat)} {ls : zLs} {st : List Value} {M : zM} (hsc : ∀ L xs, sc = some (L, xs) → va_X (ad0 1) L xs s s.heap ∧ ad0 1 < s.heap.size ∧ ¬ A (ad0 1))
    (hok : zOk own cc nL rt ini (pc, .arraylength, nxt, aux, ld) = true) (h : stp sc cal (pc, .arraylength, nxt, aux, ld) ls st M k = some rr) : zW p l e R s m args below meth c Q D cA fv A ad0 M0 nL pc ls st M := by
  obtain ⟨hx, hb, hml, hown, hts, hK, hA, hini, hX, hfv, hfr, hlo⟩ := C
  obtain ⟨hdg, rfl, hc⟩ := zchk_of2 hok
  have hc : 20 ≤ aux.getD 0 0 ∧ aux.getD 0 0 ≤ 25 ∨ aux.getD 0 0 = 31 ∨ aux.getD 0 0 = 40 := of_decide_eq_true hc
  have h : (if aux.getD 0 0 = 40 then _ else if aux.getD 0 0 = 31 then _ else _) = some rr := h
  by_cases h4 : aux.getD 0 0 = 40
  · rw [if_pos h4] at h
    obtain ⟨sl, xs, hs, h1⟩ := pS_some h
    obtain ⟨r, st, rfl, h5⟩ := pA_some h1
    obtain ⟨hg, h2⟩ := ite_some h5
    clear h h1 h5
    obtain ⟨y1, y2, y3⟩ := hsc sl xs hs
    intro ad H locs L had hn1 hn2 hwf hP hD hS hl
    rw [List.map_cons, zst_ref (r := r) (by omega), hg, had 1 (Or.inl (by omega))]
    refine va_slen hx hb y1 y2 y3 hS hdg ?_
    exact hk _ _ _ _ h2 ad H locs L had hn1 hn2 hwf hP hD hS hl
  · rw [if_neg h4] at h
    by_cases h6 : aux.getD 0 0 = 31
    · rw [if_pos h6] at h
      obtain ⟨r, st, rfl, h5⟩ := pA_some h
      obtain ⟨hg, h2⟩ := ite_some h5
      clear h h5
      intro ad H locs L had hn1 hn2 hwf hP hD hS hl
      have hr := zgk31 hg (fun a => by have := hwf.2 a; omega)
      have hq := hk _ _ _ _ h2 ad H locs L had hn1 hn2 hwf hP hD hS hl
      rw [List.map_cons, zst_ref (r := r) (by omega), had r (Or.inl (by omega))]
      rcases hr with rfl | rfl
      · exact va_tlen hx hb (hX.1.1 0 (by omega)).2.2.2 hS rfl hdg hq
      · exact va_tlen hx hb (hX.1.1 1 (by omega)).2.2.2 hS rfl hdg hq
    · rw [if_neg h6] at h
      obtain ⟨r, st, rfl, h5⟩ := pA_some h
      obtain ⟨hg, h2⟩ := ite_some h5
      clear h h5
      have hg : gK M r = aux.getD 0 0 := hg
      intro ad H locs L had hn1 hn2 hwf hP hD hS hl
      obtain ⟨g1, g2, g3⟩ := zgk hg (by omega) (by omega) (by omega)
      have hget := zws_get (ad := ad) (cA := cA) g1 g2
      have hq := hk _ _ _ _ h2 ad H locs L had hn1 hn2 hwf hP hD hS hl
      rw [List.map_cons, zst_ref (r := r) (by omega)]
      have key : ∀ (t : Nat) (ty : FieldType) (ca : ClassId) (v : (Nat → Int32) ⊕ (Nat → Int64) ⊕ (Nat → UInt32) ⊕ (Nat → UInt64) ⊕ (Nat → Option Nat)), (ztys cA)[t]? = some (ca, ty) → zce ad cA M r = .inl (ca, gN M r, v) → W p l e R s m args below meth c H locs (M.1.1 - M0.1.1) (M.1.2.1 - M0.1.2.1) Q (F0 m pc L (.ref (ad r) :: st.map (zv fv ad))) := by
        intro t ty ca v e1 e2
        rw [e2] at hget
        exact va_alen hx hb hK hP (r - 7) t hget e1 rfl hdg hq
      by_cases h7 : aux.getD 0 0 = 23
      · exact key 3 _ _ _ rfl (zce_long (by omega))
      · by_cases h8 : aux.getD 0 0 ≤ 22
        · have e2 := zce_int (ad := ad) (cA := cA) g3 (by omega)
          obtain e3 | e3 | e3 : aux.getD 0 0 = 20 ∨ aux.getD 0 0 = 21 ∨ aux.getD 0 0 = 22 := by omega
          · rw [e3] at e2; exact key 0 _ _ _ rfl e2
          · rw [e3] at e2; exact key 1 _ _ _ rfl e2
          · rw [e3] at e2; exact key 2 _ _ _ rfl e2
        · have e2 := zce_refs (ad := ad) (cA := cA) g3 (by omega)
          obtain e3 | e3 : aux.getD 0 0 = 24 ∨ aux.getD 0 0 = 25 := by omega
          · rw [e3] at e2; exact key 4 _ _ _ rfl e2
          · rw [e3] at e2; exact key 5 _ _ _ rfl e2
