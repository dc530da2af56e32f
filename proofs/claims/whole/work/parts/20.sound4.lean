/-! THE PURE MACHINE SAYS THE TRUTH, on: makings -/
theorem zty_ok : ∀ (ci : Nat) (q : vw_C), zCl[ci]? = some q → ∀ j, j < q.2.2 → ztc (zTy ci j) ≤ 2
  | 0, _, h => by cases h; decide +kernel
  | 1, _, h => by cases h; decide +kernel
  | 2, _, h => by cases h; decide +kernel
  | 3, _, h => by cases h; decide +kernel
  | 4, _, h => by cases h; decide +kernel
  | 5, _, h => by cases h; decide +kernel
  | 6, _, h => by cases h; decide +kernel
  | 7, _, h => by cases h; decide +kernel
  | 8, _, h => by cases h; decide +kernel
  | 9, _, h => by cases h; decide +kernel
  | 10, _, h => by cases h; decide +kernel
  | 11, _, h => by cases h; decide +kernel
  | 12, _, h => by cases h; decide +kernel
  | n + 13, q, h => by simp [zCl] at h
def zdf (ci : Nat) : List Value := (List.range (zN ci)).map (fun j => if ztc (zTy ci j) = 0 then .int 0 else if ztc (zTy ci j) = 1 then .long 0 else .null)
theorem zdf_ok {ci : Nat} {q : vw_C} (h : zCl[ci]? = some q) : ∀ j, j < q.2.2 → defaultValue (zTy ci j) = vp_V (zdf ci) j := by
  intro j hj
  have hN : zN ci = q.2.2 := (zcl_ok ci q h).2.2.2
  have h2 := zty_ok ci q h j hj
  unfold vp_V zdf
  rw [List.getD_eq_getElem?_getD, List.getElem?_map, List.getElem?_range (by omega)]
  simp only [Option.map_some, Option.getD_some]
  cases ht : zTy ci j with
  | int => rfl
  | boolean => rfl
  | long => rfl
  | object n => rfl
  | array t => rfl
  | _ => rw [ht] at h2; simp [ztc] at h2
theorem zce_new {ad : Nat → Nat} {cA : Nat → ClassId} {M : zM} {ci len : Nat} (hc : ci < 13) : zce ad cA (alc M ci len) (M.1.1 + 7) = .inr (ci, zdf ci) := by
  have hk : (alc M ci len).1.2.2.1 (M.1.1 + 7) = ci := if_pos rfl
  rw [zce_obj hk hc]
  refine congrArg (fun f => Sum.inr (ci, f)) ?_
  unfold zfs zdf
  refine List.map_congr_left fun j _ => ?_
  unfold zsv
  have e1 : gI (alc M ci len) (M.1.1 + 7) j = 0 := if_pos rfl
  have e2 : gL (alc M ci len) (M.1.1 + 7) j = 0 := if_pos rfl
  have e3 : gR (alc M ci len) (M.1.1 + 7) j = 0 := if_pos rfl
  rw [e1, e2, e3]
  rfl
def zad (ad : Nat → Nat) (n q : Nat) : Nat → Nat := fun r => if r = n + 7 then q else ad r
/-- a cell has come: the walk goes on -/
theorem zalc_go {p : Program} {l : Launch} {e : Env} {R : Room} {s : State} {m : MethodId} {args : Array Value} {below : List Frame} {meth : Method} {c : Code} {nL : Nat} {D : va_G} {cA : Nat → ClassId} {fv : Value} {A : Nat → Prop} {ad0 : Nat → Nat} {Q : State → Prop} {rr : zR} {M0 : zM} {k : zK}
    (hk : ∀ pc' ls' st' M', k pc' ls' st' M' = some rr → zW p l e R s m args below meth c Q D cA fv A ad0 M0 nL pc' ls' st' M')
    {pc : Nat} {ls : zLs} {st : List Value} {M : zM} {kd len : Nat} (hkd : kd < 30) (hok : okS M ls st = true) (h : k pc ls (.ref (M.1.1 + 7) :: st) (alc M kd len) = some rr) {ad : Nat → Nat} {H1 : Heap} {locs : List Loc} {L : Array Slot} {q : Nat} {x : va_E}
    (had : ∀ r, (r < M0.1.1 + 7 ∨ M.1.1 + 7 ≤ r) → ad r = ad0 r) (hn1 : M0.1.1 ≤ M.1.1) (hn2 : M0.1.2.1 ≤ M.1.2.1) (hwf : zwf M) (hx : zce (zad ad M.1.1 q) cA (alc M kd len) (M.1.1 + 7) = x) (hP : va_P D zCl (zws ad cA M ++ [(q, x)]) H1) (hD : va_D A (zws ad cA M ++ [(q, x)])) (hS : va_S A s.heap H1 locs) (hl : lv_has L nL (ls.map (zq fv ad))) :
    W p l e R s m args below meth c H1 locs (M.1.1 - M0.1.1 + 1) (M.1.2.1 - M0.1.2.1 + len) Q (F0 m pc L (.ref q :: st.map (zv fv ad))) := by
  have hne : ∀ r, r ≠ M.1.1 + 7 → zad ad M.1.1 q r = ad r := fun r hr => if_neg hr
  have hw := zws_alc (ad := ad) (ad' := zad ad M.1.1 q) (cA := cA) (M := M) (kd := kd) (len := len) hwf hne
  have hq : zad ad M.1.1 q (M.1.1 + 7) = q := if_pos rfl
  rw [hq, hx] at hw
  rw [← hw] at hP hD
  obtain ⟨e1, e2⟩ := okS_st (fv := fv) (ad := ad) (ad' := zad ad M.1.1 q) (fun r hr => hne r (by omega)) hok
  have hgo := hk _ _ _ _ h (zad ad M.1.1 q) H1 locs L (fun r hr => by
    have hr : r < M0.1.1 + 7 ∨ M.1.1 + 1 + 7 ≤ r := hr
    rw [hne r (by omega)]
    exact had r (by omega)) (Nat.le_succ_of_le hn1) (by show _ ≤ M.1.2.1 + len; omega) (zwf_alc hwf hkd) hP hD hS (by rw [e2]; exact hl)
  rw [List.map_cons, e1, zst_ref (by omega), hq] at hgo
  have f1 : (alc M kd len).1.1 - M0.1.1 = M.1.1 - M0.1.1 + 1 := by show M.1.1 + 1 - _ = _; omega
  have f2 : (alc M kd len).1.2.1 - M0.1.2.1 = M.1.2.1 - M0.1.2.1 + len := by show M.1.2.1 + len - _ = _; omega
  rw [f1, f2] at hgo
  exact hgo
theorem ss_new {p : Program} {l : Launch} {e : Env} {R : Room} {s : State} {m : MethodId} {args : Array Value} {below : List Frame} {meth : Method} {c : Code} {own : String} {cc : ByteArray} {nL : Nat} {ini : Bool} {D : va_G} {cA : Nat → ClassId} {fv : Value} {A : Nat → Prop} {ad0 : Nat → Nat} {d : Nat} {Q : State → Prop} {rr : zR} {M0 : zM} {rt : Option FieldType} {sc : Option (Nat × (Nat → Int32))} {cal : zC} {k : zK}
    (C : zCx p R s m args meth c own cc nL ini D cA fv A ad0 d) (hk : ∀ pc' ls' st' M', k pc' ls' st' M' = some rr → zW p l e R s m args below meth c Q D cA fv A ad0 M0 nL pc' ls' st' M') {pc nxt : Nat} {aux : List Nat} {ld : Option (List Nat)} {ls : zLs} {st : List Value} {M : zM} {i : Nat} (hkm : ∀ pc' ls' st' M', k pc' ls' st' M' = some rr → M'.1.1 ≤ rr.2.1.1 ∧ M'.1.2.1 ≤ rr.2.1.2.1) (hR : rr.2.1.1 - M0.1.1 ≤ R.cells ∧ rr.2.1.2.1 - M0.1.2.1 ≤ R.slots)
    (hok : zOk own cc nL rt ini (pc, .new i, nxt, aux, ld) = true) (h : stp sc cal (pc, .new i, nxt, aux, ld) ls st M k = some rr) : zW p l e R s m args below meth c Q D cA fv A ad0 M0 nL pc ls st M := by
  obtain ⟨hx, hb, hml, hown, hts, hK, hA, hini, hX, hfv, hfr, hlo⟩ := C
  have hok : (zchk cc (pc, .new i, nxt, aux, ld) 3 && _) = true := hok
  obtain ⟨hdg, rfl, hc⟩ := zchk_of2 hok
  dsimp only [ax] at hc
  cases hq : zCl[aux.getD 0 0]? with
  | none => rw [hq] at hc; cases hc
  | some q =>
    rw [hq] at hc
    simp only [Bool.and_eq_true, decide_eq_true_eq] at hc
    obtain ⟨⟨⟨hlen, w1⟩, w2⟩, w3⟩ := hc
    obtain ⟨hin, hty, hnm, hN⟩ := zcl_ok2 _ q hq
    have hci := zcl_lt hq
    obtain ⟨hoks, h2⟩ := ite_some h
    have h2 : k (pc + 3) ls (.ref (M.1.1 + 7) :: st) (alc M (aux.getD 0 0) (aux.getD 1 0)) = some rr := h2
    have hm := hkm _ _ _ _ h2
    have hm : M.1.1 + 1 ≤ rr.2.1.1 ∧ M.1.2.1 + aux.getD 1 0 ≤ rr.2.1.2.1 := hm
    intro ad H locs L had hn1 hn2 hwf hP hD hS hl
    refine va_new hx hb hts hin (zTy (aux.getD 0 0)) hty hown (hts _ (zwd_in w1)) (hts _ (zwd_in w2)) (hts _ (zwd_in w3)) hK hP hD hS hA hq (zdf_ok hq) (by omega) (by omega) hdg (fun q1 H1 hP hD hS => ?_)
    rw [← hlen]
    exact zalc_go hk (by omega) hoks h2 had hn1 hn2 hwf (zce_new hci) hP hD hS hl
theorem zca_eq {D : va_G} {cl : List vw_C} {tys : List (ClassId × FieldType)} {s : State} {c1 c2 : ClassId} {ty : FieldType} {t : Nat} (hK : va_K D cl (tys ++ [(c1, ty)]) s) (ht : tys[t]? = some (c2, ty)) : c1 = c2 := by
  have h1 : (tys ++ [(c1, ty)])[tys.length]? = some (c1, ty) := by simp
  have h2 : (tys ++ [(c1, ty)])[t]? = some (c2, ty) := by rw [List.getElem?_append_left (List.getElem?_eq_some_iff.mp ht).1]; exact ht
  have a1 := (hK.2 _ _ h1).2
  have a2 := (hK.2 _ _ h2).2
  have key : ∀ (ca : ClassId), va_RA s ca ty → s.vm.findClass ("[" ++ ty.toString) = some ca := fun ca h => by
    cases ty with
    | object n => obtain ⟨_, _, _, _, _, h⟩ := h; exact h
    | _ => exact h
  have f := (key _ a1).symm.trans (key _ a2)
  exact Option.some.inj f
theorem zce_newi {ad : Nat → Nat} {cA : Nat → ClassId} {M : zM} {kd len : Nat} (hc : 20 ≤ kd ∧ kd ≤ 22) : zce ad cA (alc M kd len) (M.1.1 + 7) = .inl (cA kd, len, .inl (fun _ => 0)) := by
  have hk : (alc M kd len).1.2.2.1 (M.1.1 + 7) = kd := if_pos rfl
  have e1 : gN (alc M kd len) (M.1.1 + 7) = len := if_pos rfl
  have e2 : gI (alc M kd len) (M.1.1 + 7) = fun _ => 0 := funext fun j => if_pos rfl
  rw [zce_int hk hc, e1, e2]
theorem zce_newl {ad : Nat → Nat} {cA : Nat → ClassId} {M : zM} {len : Nat} : zce ad cA (alc M 23 len) (M.1.1 + 7) = .inl (cA 23, len, .inr (.inl (fun _ => 0))) := by
  have hk : (alc M 23 len).1.2.2.1 (M.1.1 + 7) = 23 := if_pos rfl
  have e1 : gN (alc M 23 len) (M.1.1 + 7) = len := if_pos rfl
  have e2 : gL (alc M 23 len) (M.1.1 + 7) = fun _ => 0 := funext fun j => if_pos rfl
  rw [zce_long hk, e1, e2]
theorem zce_newq {ad : Nat → Nat} {cA : Nat → ClassId} {M : zM} {len : Nat} : zce ad cA (alc M 24 len) (M.1.1 + 7) = .inl (cA 24, len, .inr (.inr (.inr (.inr (fun _ => none))))) := by
  have hk : (alc M 24 len).1.2.2.1 (M.1.1 + 7) = 24 := if_pos rfl
  have e1 : gN (alc M 24 len) (M.1.1 + 7) = len := if_pos rfl
  have e2 : zaf ad (alc M 24 len) (M.1.1 + 7) = fun _ => none := funext fun j => if_pos (if_pos rfl)
  rw [zce_refs hk (Or.inl rfl), e1, e2]
theorem z_neg {n : Int32} (h : 0 ≤ n.toInt) : ¬ n < 0 := fun q => by
  have := Int32.lt_iff_toInt_lt.mp q
  have e : (0 : Int32).toInt = 0 := rfl
  omega
theorem ss_newarray {p : Program} {l : Launch} {e : Env} {R : Room} {s : State} {m : MethodId} {args : Array Value} {below : List Frame} {meth : Method} {c : Code} {own : String} {cc : ByteArray} {nL : Nat} {ini : Bool} {D : va_G} {cA : Nat → ClassId} {fv : Value} {A : Nat → Prop} {ad0 : Nat → Nat} {d : Nat} {Q : State → Prop} {rr : zR} {M0 : zM} {rt : Option FieldType} {sc : Option (Nat × (Nat → Int32))} {cal : zC} {k : zK}
    (C : zCx p R s m args meth c own cc nL ini D cA fv A ad0 d) (hk : ∀ pc' ls' st' M', k pc' ls' st' M' = some rr → zW p l e R s m args below meth c Q D cA fv A ad0 M0 nL pc' ls' st' M') {pc nxt : Nat} {aux : List Nat} {ld : Option (List Nat)} {ls : zLs} {st : List Value} {M : zM} {t : ArrayType} (hkm : ∀ pc' ls' st' M', k pc' ls' st' M' = some rr → M'.1.1 ≤ rr.2.1.1 ∧ M'.1.2.1 ≤ rr.2.1.2.1) (hR : rr.2.1.1 - M0.1.1 ≤ R.cells ∧ rr.2.1.2.1 - M0.1.2.1 ≤ R.slots)
    (hok : zOk own cc nL rt ini (pc, .newarray t, nxt, aux, ld) = true) (h : stp sc cal (pc, .newarray t, nxt, aux, ld) ls st M k = some rr) : zW p l e R s m args below meth c Q D cA fv A ad0 M0 nL pc ls st M := by
  obtain ⟨hx, hb, hml, hown, hts, hK, hA, hini, hX, hfv, hfr, hlo⟩ := C
  have hok : (zchk cc (pc, .newarray t, nxt, aux, ld) 2 && zwd (aux.getD 1 0) (.arrayClass (newarray.typeOf t)) && decide (zat t = aux.getD 0 0) && decide (aux.getD 0 0 < 30)) = true := hok
  simp only [Bool.and_eq_true, decide_eq_true_eq] at hok
  obtain ⟨⟨⟨hch, w1⟩, hz⟩, h30⟩ := hok
  obtain ⟨hdg, rfl⟩ := zchk_of hch
  obtain ⟨n, st, rfl, h1⟩ := pI_some h
  obtain ⟨⟨hn, hoks⟩, h2⟩ := ite_some h1
  clear h h1
  have h2 : k (pc + 2) ls (.ref (M.1.1 + 7) :: st) (alc M (aux.getD 0 0) n.toInt.toNat) = some rr := h2
  rw [← hz] at h2 h30
  have hm := hkm _ _ _ _ h2
  have hm : M.1.1 + 1 ≤ rr.2.1.1 ∧ M.1.2.1 + n.toInt.toNat ≤ rr.2.1.2.1 := hm
  intro ad H locs L had hn1 hn2 hwf hP hD hS hl
  cases t with
  | int =>
    refine va_newa (atype := .int) (ty := .int) (N' := n.toInt.toNat) (a0 := (n.toInt.toNat, .inl (fun _ => 0))) hx hb (hts _ (zwd_in w1)) rfl hK hP hD hS hA (fun _ => rfl) (z_neg hn.1) rfl (by show _ * 4 ≤ _; omega) (by omega) (by omega) hdg (fun q1 ca H1 hK1 hP hD hS => ?_)
    have hca := zca_eq hK1 (t := 0) rfl
    subst hca
    exact zalc_go hk (by omega) hoks h2 had hn1 hn2 hwf (zce_newi (kd := 20) (by omega)) hP hD hS hl
  | byte =>
    refine va_newa (atype := .byte) (ty := .byte) (N' := n.toInt.toNat) (a0 := (n.toInt.toNat, .inl (fun _ => 0))) hx hb (hts _ (zwd_in w1)) rfl hK hP hD hS hA (fun _ => rfl) (z_neg hn.1) rfl (by show _ * 1 ≤ _; omega) (by omega) (by omega) hdg (fun q1 ca H1 hK1 hP hD hS => ?_)
    have hca := zca_eq hK1 (t := 1) rfl
    subst hca
    exact zalc_go hk (by omega) hoks h2 had hn1 hn2 hwf (zce_newi (kd := 21) (by omega)) hP hD hS hl
  | boolean =>
    refine va_newa (atype := .boolean) (ty := .boolean) (N' := n.toInt.toNat) (a0 := (n.toInt.toNat, .inl (fun _ => 0))) hx hb (hts _ (zwd_in w1)) rfl hK hP hD hS hA (fun _ => rfl) (z_neg hn.1) rfl (by show _ * 1 ≤ _; omega) (by omega) (by omega) hdg (fun q1 ca H1 hK1 hP hD hS => ?_)
    have hca := zca_eq hK1 (t := 2) rfl
    subst hca
    exact zalc_go hk (by omega) hoks h2 had hn1 hn2 hwf (zce_newi (kd := 22) (by omega)) hP hD hS hl
  | long =>
    refine va_newa (atype := .long) (ty := .long) (N' := n.toInt.toNat) (a0 := (n.toInt.toNat, .inr (.inl (fun _ => 0)))) hx hb (hts _ (zwd_in w1)) rfl hK hP hD hS hA (fun _ => rfl) (z_neg hn.1) rfl (by show _ * 8 ≤ _; omega) (by omega) (by omega) hdg (fun q1 ca H1 hK1 hP hD hS => ?_)
    have hca := zca_eq hK1 (t := 3) rfl
    subst hca
    exact zalc_go hk (by omega) hoks h2 had hn1 hn2 hwf (zce_newl) hP hD hS hl
  | _ => exact absurd h30 (by decide)
theorem ss_anewarray {p : Program} {l : Launch} {e : Env} {R : Room} {s : State} {m : MethodId} {args : Array Value} {below : List Frame} {meth : Method} {c : Code} {own : String} {cc : ByteArray} {nL : Nat} {ini : Bool} {D : va_G} {cA : Nat → ClassId} {fv : Value} {A : Nat → Prop} {ad0 : Nat → Nat} {d : Nat} {Q : State → Prop} {rr : zR} {M0 : zM} {rt : Option FieldType} {sc : Option (Nat × (Nat → Int32))} {cal : zC} {k : zK}
    (C : zCx p R s m args meth c own cc nL ini D cA fv A ad0 d) (hk : ∀ pc' ls' st' M', k pc' ls' st' M' = some rr → zW p l e R s m args below meth c Q D cA fv A ad0 M0 nL pc' ls' st' M') {pc nxt : Nat} {aux : List Nat} {ld : Option (List Nat)} {ls : zLs} {st : List Value} {M : zM} {i : Nat} (hkm : ∀ pc' ls' st' M', k pc' ls' st' M' = some rr → M'.1.1 ≤ rr.2.1.1 ∧ M'.1.2.1 ≤ rr.2.1.2.1) (hR : rr.2.1.1 - M0.1.1 ≤ R.cells ∧ rr.2.1.2.1 - M0.1.2.1 ≤ R.slots)
    (hok : zOk own cc nL rt ini (pc, .anewarray i, nxt, aux, ld) = true) (h : stp sc cal (pc, .anewarray i, nxt, aux, ld) ls st M k = some rr) : zW p l e R s m args below meth c Q D cA fv A ad0 M0 nL pc ls st M := by
  obtain ⟨hx, hb, hml, hown, hts, hK, hA, hini, hX, hfv, hfr, hlo⟩ := C
  have hok : (zchk cc (pc, .anewarray i, nxt, aux, ld) 3 && zwd (aux.getD 1 0) (.classLink own i "SilkRise$State") && zwd (aux.getD 2 0) (.arrayOver (.object "SilkRise$State"))) = true := hok
  simp only [Bool.and_eq_true] at hok
  obtain ⟨⟨hch, w1⟩, w2⟩ := hok
  obtain ⟨hdg, rfl⟩ := zchk_of hch
  obtain ⟨n, st, rfl, h1⟩ := pI_some h
  obtain ⟨⟨hn, hoks⟩, h2⟩ := ite_some h1
  clear h h1
  have h2 : k (pc + 3) ls (.ref (M.1.1 + 7) :: st) (alc M 24 n.toInt.toNat) = some rr := h2
  have hm := hkm _ _ _ _ h2
  have hm : M.1.1 + 1 ≤ rr.2.1.1 ∧ M.1.2.1 + n.toInt.toNat ≤ rr.2.1.2.1 := hm
  intro ad H locs L had hn1 hn2 hwf hP hD hS hl
  refine va_newq (N' := n.toInt.toNat) hx hb hown (hts _ (zwd_in w1)) (va_AO.of (hts _ (zwd_in w2))) hK hP hD hS hA (z_neg hn.1) rfl (by omega) (by omega) (by omega) hdg (fun q1 ca H1 hK1 hP hD hS => ?_)
  have hca := zca_eq hK1 (t := 4) rfl
  subst hca
  exact zalc_go hk (by omega) hoks h2 had hn1 hn2 hwf zce_newq hP hD hS hl
def zadg (ad : Nat → Nat) (n q N : Nat) (r : Nat → Nat) : Nat → Nat := fun a => if a = n + 7 then q else if n + 7 < a ∧ a ≤ n + 7 + N then r (a - (n + 8)) else ad a
theorem zws_alg {ad : Nat → Nat} {cA : Nat → ClassId} {M : zM} {q N K : Nat} {r : Nat → Nat} (hw : zwf M) :
    zws (zadg ad M.1.1 q N r) cA (alg M N K) = (zws ad cA M ++ [(q, .inl (cA 25, N, .inr (.inr (.inr (.inr (fun i => if i < N then some (r i) else none))))))]) ++ (List.range N).map (fun i => (r i, .inl (cA 20, K, .inl (fun _ => 0)))) := by
  unfold zws
  rw [show (alg M N K).1.1 = M.1.1 + 1 + N from rfl, List.range_add, List.map_append, List.range_succ, List.map_append, List.map_map]
  congr 1
  · congr 1
    · apply List.map_congr_left
      intro i hi
      have hi : i < M.1.1 := List.mem_range.mp hi
      have hne : ∀ {α : Type} (x y z : α), (if i + 7 = M.1.1 + 7 then x else if M.1.1 + 7 ≤ i + 7 then y else z) = z := fun x y z => by rw [if_neg (by omega), if_neg (by omega)]
      have hne2 : ∀ {α : Type} (y z : α), (if M.1.1 + 7 ≤ i + 7 then y else z) = z := fun y z => if_neg (by omega)
      have had : ∀ a, a < M.1.1 + 7 → zadg ad M.1.1 q N r a = ad a := fun a ha => by
        unfold zadg
        rw [if_neg (by omega), if_neg (by omega)]
      rw [had _ (by omega)]
      congr 1
      have e1 : zce (zadg ad M.1.1 q N r) cA (alg M N K) (i + 7) = zce (zadg ad M.1.1 q N r) cA M (i + 7) := by
        refine zce_congr ?_ ?_ (funext fun b => ?_) (funext fun b => ?_) (funext fun b => ?_)
        · exact hne _ _ _
        · exact hne _ _ _
        · exact hne2 _ _
        · exact hne2 _ _
        · exact hne _ _ _
      rw [e1]
      exact zce_ad fun j _ => had _ (by have := hw.1 (i + 7) j; omega)
    · rw [List.map_singleton]
      have hk : (alg M N K).1.2.2.1 (M.1.1 + 7) = 25 := if_pos rfl
      have e1 : gN (alg M N K) (M.1.1 + 7) = N := if_pos rfl
      have e0 : zadg ad M.1.1 q N r (M.1.1 + 7) = q := if_pos rfl
      rw [zce_refs hk (Or.inr rfl), e1, e0]
      congr 1
      congr 1
      refine congrArg (fun f => Sum.inl (cA 25, N, Sum.inr (Sum.inr (Sum.inr (Sum.inr f))))) (funext fun j => ?_)
      have e2 : gR (alg M N K) (M.1.1 + 7) j = if j < N then M.1.1 + 8 + j else 0 := if_pos rfl
      unfold zaf
      rw [e2]
      by_cases hj : j < N
      · rw [if_pos hj, if_neg (by omega), if_pos hj]
        congr 1
        unfold zadg
        rw [if_neg (by omega), if_pos (by omega), show M.1.1 + 8 + j - (M.1.1 + 8) = j by omega]
      · rw [if_neg hj, if_pos rfl, if_neg hj]
  · apply List.map_congr_left
    intro i hi
    have hi : i < N := List.mem_range.mp hi
    show (zadg ad M.1.1 q N r (M.1.1 + 1 + i + 7), zce (zadg ad M.1.1 q N r) cA (alg M N K) (M.1.1 + 1 + i + 7)) = _
    have e0 : zadg ad M.1.1 q N r (M.1.1 + 1 + i + 7) = r i := by
      unfold zadg
      rw [if_neg (by omega), if_pos (by omega), show M.1.1 + 1 + i + 7 - (M.1.1 + 8) = i by omega]
    have h2 : ∀ {α : Type} (x y z : α), (if M.1.1 + 1 + i + 7 = M.1.1 + 7 then x else if M.1.1 + 7 ≤ M.1.1 + 1 + i + 7 then y else z) = y := fun x y z => by rw [if_neg (by omega), if_pos (by omega)]
    have hk : (alg M N K).1.2.2.1 (M.1.1 + 1 + i + 7) = 20 := h2 _ _ _
    have e1 : gN (alg M N K) (M.1.1 + 1 + i + 7) = K := h2 _ _ _
    have e2 : gI (alg M N K) (M.1.1 + 1 + i + 7) = fun _ => 0 := funext fun j => if_pos (by omega)
    rw [zce_int hk (by omega), e0, e1, e2]
theorem zwf_alg {M : zM} {N K : Nat} (h : zwf M) : zwf (alg M N K) := by
  refine ⟨fun r j => ?_, fun a => ?_⟩
  · show (if r = M.1.1 + 7 then (if j < N then M.1.1 + 8 + j else 0) else if M.1.1 + 7 ≤ r then 0 else _) < M.1.1 + 1 + N + 7
    split
    · split <;> omega
    · split
      · omega
      · have := h.1 r j
        unfold gR at this
        omega
  · show (if a = M.1.1 + 7 then 25 else if M.1.1 + 7 ≤ a then 20 else _) < 30
    split
    · omega
    · split
      · omega
      · exact h.2 a
theorem ss_multianewarray {p : Program} {l : Launch} {e : Env} {R : Room} {s : State} {m : MethodId} {args : Array Value} {below : List Frame} {meth : Method} {c : Code} {own : String} {cc : ByteArray} {nL : Nat} {ini : Bool} {D : va_G} {cA : Nat → ClassId} {fv : Value} {A : Nat → Prop} {ad0 : Nat → Nat} {d : Nat} {Q : State → Prop} {rr : zR} {M0 : zM} {rt : Option FieldType} {sc : Option (Nat × (Nat → Int32))} {cal : zC} {k : zK}
    (C : zCx p R s m args meth c own cc nL ini D cA fv A ad0 d) (hk : ∀ pc' ls' st' M', k pc' ls' st' M' = some rr → zW p l e R s m args below meth c Q D cA fv A ad0 M0 nL pc' ls' st' M') {pc nxt : Nat} {aux : List Nat} {ld : Option (List Nat)} {ls : zLs} {st : List Value} {M : zM} {i : Nat} (hkm : ∀ pc' ls' st' M', k pc' ls' st' M' = some rr → M'.1.1 ≤ rr.2.1.1 ∧ M'.1.2.1 ≤ rr.2.1.2.1) (hR : rr.2.1.1 - M0.1.1 ≤ R.cells ∧ rr.2.1.2.1 - M0.1.2.1 ≤ R.slots)
    (hok : zOk own cc nL rt ini (pc, .multianewarray i 2, nxt, aux, ld) = true) (h : stp sc cal (pc, .multianewarray i 2, nxt, aux, ld) ls st M k = some rr) : zW p l e R s m args below meth c Q D cA fv A ad0 M0 nL pc ls st M := by
  obtain ⟨hx, hb, hml, hown, hts, hK, hA, hini, hX, hfv, hfr, hlo⟩ := C
  have hok : (zchk cc (pc, .multianewarray i 2, nxt, aux, ld) 4 && decide (2 = 2) && zwd (aux.getD 1 0) (.classLink own i "[[I") && zwd (aux.getD 2 0) (.arrayOver (.array .int)) && zwd (aux.getD 3 0) (.arrayClass .int)) = true := hok
  simp only [Bool.and_eq_true] at hok
  obtain ⟨⟨⟨⟨hch, -⟩, w1⟩, w2⟩, w3⟩ := hok
  obtain ⟨hdg, rfl⟩ := zchk_of hch
  obtain ⟨kk, st, rfl, h1⟩ := pI_some h
  obtain ⟨n, st, rfl, h3⟩ := pI_some h1
  obtain ⟨⟨hn, hm2, hoks⟩, h2⟩ := ite_some h3
  clear h h1 h3
  have h2 : k (pc + 4) ls (.ref (M.1.1 + 7) :: st) (alg M n.toInt.toNat kk.toInt.toNat) = some rr := h2
  generalize hN : n.toInt.toNat = N at h2
  generalize hKK : kk.toInt.toNat = K at h2
  have hm := hkm _ _ _ _ h2
  have hm : M.1.1 + 1 + N ≤ rr.2.1.1 ∧ M.1.2.1 + N + N * K ≤ rr.2.1.2.1 := hm
  intro ad H locs L had hn1 hn2 hwf hP hD hS hl
  have hNL : N < 1000 := by omega
  have hKL : K < 1000 := by omega
  have hfc := (hK.2 0 (cA 20, .int) rfl).2
  refine va_mna (X := zws ad cA M) (L := []) (f := fun _ => .inr (0, [])) (ty := .int) (cy := cA 20) (N' := N) (K' := K) (z := (K, .inl (fun _ => 0))) hx hb hown (hts _ (zwd_in w1)) (hts _ (zwd_in w2)) (hts _ (zwd_in w3)) hfc hK (by simpa [va_pl] using hP) (by simpa [va_pl] using hD) hS hA (z_neg hn.1) (z_neg hm2.1) hN hKK (by omega) (by show K * 4 ≤ _; omega) (by omega) rfl rfl (by omega) (by omega) (fun cc0 => by show ({ cls := cc0, slots := Array.replicate K (.int 0), vm := .none } : Cell) = _; rw [arrV_new]; rfl) hdg (fun q r ca H1 hr1 hr2 hK1 hP hD hS => ?_)
  have hca := zca_eq hK1 (t := 5) rfl
  subst hca
  have hpl : va_pl ([] ++ (List.range N).map r) (vr_up (fun _ => .inr (0, [])) ((List.range N).map r) (.inl (cA 20, (K, .inl (fun _ => 0))))) = (List.range N).map (fun i => (r i, .inl (cA 20, K, .inl (fun _ => 0)))) := by
    unfold va_pl
    rw [List.nil_append, List.map_map]
    refine List.map_congr_left fun i hi => ?_
    show (r i, vr_up _ _ _ (r i)) = _
    rw [vr_up_in (List.mem_map.mpr ⟨i, hi, rfl⟩)]
  rw [hpl, ← zws_alg (K := K) hwf] at hP hD
  have hlow : ∀ a, a < M.1.1 + 7 → zadg ad M.1.1 q N r a = ad a := fun a ha => by unfold zadg; rw [if_neg (by omega), if_neg (by omega)]
  obtain ⟨e1, e2⟩ := okS_st (fv := fv) (ad := ad) (ad' := zadg ad M.1.1 q N r) hlow hoks
  have hgo := hk _ _ _ _ h2 (zadg ad M.1.1 q N r) H1 locs L (fun a ha => by
    have ha : a < M0.1.1 + 7 ∨ M.1.1 + 1 + N + 7 ≤ a := ha
    have : zadg ad M.1.1 q N r a = ad a := by unfold zadg; rw [if_neg (by omega), if_neg (by omega)]
    rw [this]
    exact had a (by omega)) (by show _ ≤ M.1.1 + 1 + N; omega) (by show _ ≤ M.1.2.1 + N + N * K; omega) (zwf_alg hwf) hP hD hS (by rw [e2]; exact hl)
  have hq : zadg ad M.1.1 q N r (M.1.1 + 7) = q := if_pos rfl
  rw [List.map_cons, e1, zst_ref (by omega), hq] at hgo
  have f1 : (alg M N K).1.1 - M0.1.1 = M.1.1 - M0.1.1 + 1 + N := by show M.1.1 + 1 + N - _ = _; omega
  have f2 : (alg M N K).1.2.1 - M0.1.2.1 = M.1.2.1 - M0.1.2.1 + N + N * K := by show M.1.2.1 + N + N * K - _ = _; omega
  rw [f1, f2] at hgo
  exact hgo
