/-! THE PURE MACHINE SAYS THE TRUTH, on: calls and ends -/
theorem zblind {D : va_G} {cA : Nat → ClassId} {fv : Value} {ad : Nat → Nat} {M : zM} {sz : Nat} {av : List Value} : FrameBlind (va_Pc av (zPre D cA fv ad M sz)) := fun a U g mk q => by
  obtain ⟨q1, hsz, hwf, hP, hK, hD, hX, hN⟩ := q
  exact ⟨q1, hsz, hwf, hP, va_K.moved (u := U) (U := U.calling g mk a) (Vm.Alike.refl U.vm) hK, hD, ⟨vk_S.moved (u := U) (U := U.calling g mk a) (Vm.Alike.refl U.vm) hX.1, vk_R.same (u := U) (U := U.calling g mk a) rfl hX.2.1, vk_R.same (u := U) (U := U.calling g mk a) rfl hX.2.2.1, va_Z.moved (u := U) (U := U.calling g mk a) (Vm.Alike.refl U.vm) hX.2.2.2.1, va_Z.moved (u := U) (U := U.calling g mk a) (Vm.Alike.refl U.vm) hX.2.2.2.2⟩, fun w hw hn => nest_same hn (u := U) (U := U.calling g mk a) rfl (hN w hw hn)⟩
theorem zX_ad {ad ad0 : Nat → Nat} {fv : Value} {A : Nat → Prop} {U : State} {H : Heap} (h : zX ad0 fv A U H) (had : ∀ r, r < 7 → ad r = ad0 r) : zX ad fv A U H := by
  unfold zX at h ⊢
  rw [had 2 (by omega), had 3 (by omega), had 4 (by omega), had 5 (by omega)]
  exact h
theorem zX_call {ad : Nat → Nat} {fv : Value} {A A1 : Nat → Prop} {s U : State} {H : Heap} {locs : List Loc} (h : zX ad fv A s s.heap) (hS : va_S A s.heap H locs) (hA : ∀ q, A1 q → A q) (hU : U.heap = H) (hW : s.WarmedH U.vm) : zX ad fv A1 U U.heap := by
  rw [hU]
  exact ⟨((h.1.kept hS.2.1).narrow hA).moved hW.alike, vk_R.warm hW h.2.1, vk_R.warm hW h.2.2.1, ((h.2.2.2.1.kept hS.2.1).narrow hA).moved hW.alike, ((h.2.2.2.2.kept hS.2.1).narrow hA).moved hW.alike⟩
theorem zgood {z : Nat} (hz : z < 278) : GoodIn zTb (zw z) := by
  intro w hw
  rcases List.mem_cons.mp hw with rfl | h
  · exact ⟨zcode_in hz, good_of_word rfl⟩
  · have h2 := List.mem_filter.mp h
    exact ⟨h2.1, good_of_word h2.2⟩
theorem zMok_of {z n : Nat} (hz : zMok z = true) (hp : zpar z n = true) : ((zinf z).1.cls ≠ "java/lang/invoke/MethodHandle" ∧ (zinf z).1.cls ≠ "java/lang/invoke/VarHandle" ∧ (parseMethodDescriptor (zinf z).1.desc).map (fun d => d.parameters.length) = some n) ∧ (zinf z).2.2.1 ≤ 40 := by
  unfold zMok at hz
  unfold zpar at hp
  simp only [Bool.and_eq_true, decide_eq_true_eq] at hz hp
  exact ⟨⟨hz.1.1.1.2, hz.1.1.2, hp.2⟩, hz.1.2⟩
theorem cBack_some {ret : Nat} {oo : Option zR} {f : List Value → zM → Option zR} {r : zR} (h : cBack ret oo f = some r) : ∃ v M1, oo = some (v, M1) ∧ f v.toList M1 = some r := by
  unfold cBack at h
  split at h
  · obtain ⟨M1, h1, h2⟩ := bV_some h
    exact ⟨none, M1, h1, h2⟩
  · split at h
    · obtain ⟨x, M1, h1, h2⟩ := bI_some h
      exact ⟨some (.int x), M1, h1, h2⟩
    · obtain ⟨x, M1, h1, h2⟩ := bL_some h
      exact ⟨some (.long x), M1, h1, h2⟩
/-- behind a call: the walk goes on -/
theorem zcall_go {p : Program} {l : Launch} {e : Env} {R : Room} {s : State} {m : MethodId} {args : Array Value} {below : List Frame} {meth : Method} {c : Code} {own : String} {cc : ByteArray} {nL : Nat} {ini : Bool} {D : va_G} {cA : Nat → ClassId} {fv : Value} {A : Nat → Prop} {ad0 : Nat → Nat} {d : Nat} {Q : State → Prop} {rr : zR} {M0 : zM} {k : zK}
    (C : zCx p R s m args meth c own cc nL ini D cA fv A ad0 d) (hk : ∀ pc' ls' st' M', k pc' ls' st' M' = some rr → zW p l e R s m args below meth c Q D cA fv A ad0 M0 nL pc' ls' st' M')
    {pc : Nat} {ls : zLs} {st : List Value} {M M1 : zM} {v : Option Value} {ad : Nat → Nat} {H : Heap} {locs : List Loc} {L : Array Slot} {st0 : List Value} {av : Array Value}
    (had : ∀ r, (r < M0.1.1 + 7 ∨ M.1.1 + 7 ≤ r) → ad r = ad0 r) (hn1 : M0.1.1 ≤ M.1.1) (hn2 : M0.1.2.1 ≤ M.1.2.1) (hD : va_D A (zws ad cA M)) (hS : va_S A s.heap H locs) (hl : lv_has L nL (ls.map (zq fv ad)))
    (hag : M1.1.1 = M.1.1 ∨ okS M ls st = true) (hmo : M.1.1 ≤ M1.1.1 ∧ M.1.2.1 ≤ M1.1.2.1)
    (hr : va_Run p l e R s m args below meth c H locs (M.1.1 - M0.1.1) (M.1.2.1 - M0.1.2.1) (M1.1.1 - M.1.1) (M1.1.2.1 - M.1.2.1) (F0 m pc L st0) (st.map (zv fv ad)) (zQc D cA fv ad M H.size v M1 av) (va_A (zws ad cA M) H.size))
    (h : k (pc + 3) ls (v.toList ++ st) M1 = some rr) : W p l e R s m args below meth c H locs (M.1.1 - M0.1.1) (M.1.2.1 - M0.1.2.1) Q (F0 m pc L st0) := by
  obtain ⟨hx, hb, hml, hown, hts, hK, hA, hini, hX, hfv, hfr, hlo⟩ := C
  have hA1 : ∀ q, va_A (zws ad cA M) H.size q → A q := fun q hq => by
    rcases hq with ⟨i, x, hi⟩ | hq
    · exact hD.2 i (q, x) hi
    · exact hA q (Nat.le_trans hS.1 hq)
  intro T hT X
  obtain ⟨v', st₀, t, T', L', h0, X', hL, e1, e2, ⟨⟨ad', hag', hwf1, hv, hP1, hD1⟩, hz, hkp⟩, hst⟩ := hr T hT X
  cases hv
  rw [h0] at hz hkp
  have hm : st.map (zv fv ad') = st.map (zv fv ad) ∧ ls.map (zq fv ad') = ls.map (zq fv ad) := by
    rcases hag with h1 | h1
    · have : ad' = ad := funext fun r => hag' r (by omega)
      rw [this]
      exact ⟨rfl, rfl⟩
    · exact okS_st (fun r hr => hag' r (Or.inl hr)) h1
  have hgo := hk _ _ _ _ h ad' T'.heap (locs ++ L') L (fun r hr => by rw [hag' r (by omega)]; exact had r (by omega)) (by omega) (by omega) hwf1 (by rw [e1]; exact hP1) (hD1.weaken (fun _ q _ hq => hA1 q.1 hq))
    ⟨Nat.le_trans hS.1 (by rw [e1]; exact hz), fun q h1 h2 => by rw [e1, hkp q (Nat.lt_of_lt_of_le h1 hS.1) (fun z => h2 (hA1 q z))]; exact hS.2.1 q h1 h2, fun q hq => by
      rcases List.mem_append.mp hq with h | h
      · exact hS.2.2 q h
      · exact hA1 _ (hL q h)⟩ (by rw [hm.2]; exact hl)
  have f1 : M.1.1 - M0.1.1 + (M1.1.1 - M.1.1) = M1.1.1 - M0.1.1 := by omega
  have f2 : M.1.2.1 - M0.1.2.1 + (M1.1.2.1 - M.1.2.1) = M1.1.2.1 - M0.1.2.1 := by omega
  rw [f1, f2] at X'
  have f3 : (v.toList ++ st).map (zv fv ad') = (v.map (zv fv ad')).toList ++ st.map (zv fv ad) := by
    rw [List.map_append, hm.1]
    cases v <;> rfl
  rw [f3] at hgo
  obtain ⟨t2, a1, b1⟩ := hgo T' rfl X'
  exact ⟨t2, hst t2 a1, b1⟩
theorem zstk {fv : Value} {ad : Nat → Nat} (as st : List Value) : (as.reverse ++ st).map (zv fv ad) = (as.map (zv fv ad)).reverse ++ st.map (zv fv ad) := by
  rw [List.map_append, List.map_reverse]
theorem ss_invokestatic {p : Program} {l : Launch} {e : Env} {R : Room} {s : State} {m : MethodId} {args : Array Value} {below : List Frame} {meth : Method} {c : Code} {own : String} {cc : ByteArray} {nL : Nat} {ini : Bool} {D : va_G} {cA : Nat → ClassId} {fv : Value} {A : Nat → Prop} {ad0 : Nat → Nat} {d : Nat} {Q : State → Prop} {rr : zR} {M0 : zM} {rt : Option FieldType} {sc : Option (Nat × (Nat → Int32))} {cal : zC} {k : zK}
    (C : zCx p R s m args meth c own cc nL ini D cA fv A ad0 d) (hk : ∀ pc' ls' st' M', k pc' ls' st' M' = some rr → zW p l e R s m args below meth c Q D cA fv A ad0 M0 nL pc' ls' st' M') {pc nxt : Nat} {aux : List Nat} {ld : Option (List Nat)} {ls : zLs} {st : List Value} {M : zM} {i : Nat} (hcal : ∀ z as M v M1, cal z as M = some (v, M1) → (M.1.1 ≤ M1.1.1 ∧ M.1.2.1 ≤ M1.1.2.1) ∧ zMet l d z as M v M1) (hkm : ∀ pc' ls' st' M', k pc' ls' st' M' = some rr → M'.1.1 ≤ rr.2.1.1 ∧ M'.1.2.1 ≤ rr.2.1.2.1) (hR : rr.2.1.1 - M0.1.1 ≤ R.cells ∧ rr.2.1.2.1 - M0.1.2.1 ≤ R.slots) (hzm : ∀ z, z < 278 → zMok z = true)
    (hok : zOk own cc nL rt ini (pc, .invokestatic i, nxt, aux, ld) = true) (h : stp sc cal (pc, .invokestatic i, nxt, aux, ld) ls st M k = some rr) : zW p l e R s m args below meth c Q D cA fv A ad0 M0 nL pc ls st M := by
  obtain ⟨hx, hb, hml, hown, hts, hK, hA, hini, hX, hfv, hfr, hlo⟩ := C
  have C : zCx p R s m args meth c own cc nL ini D cA fv A ad0 d := ⟨hx, hb, hml, hown, hts, hK, hA, hini, hX, hfv, hfr, hlo⟩
  obtain ⟨hdg, rfl, hc⟩ := zchk_of2 hok
  have hc : (if aux.getD 0 0 = 9999 then zwd (aux.getD 1 0) (.methodLink own i arraycopyName) && zwd (aux.getD 2 0) (.native arraycopyName) && zwd (aux.getD 3 0) (.static arraycopyName) && zwd (aux.getD 4 0) (.initialized "java/lang/System") else zpar (aux.getD 0 0) (aux.getD 1 0) && zwd (aux.getD 5 0) (.static (zinf (aux.getD 0 0)).1) && zwd (aux.getD 6 0) (.initialized (zinf (aux.getD 0 0)).1.cls) && (if aux.getD 3 0 = 0 then zwd (aux.getD 4 0) (.methodLink own i (zinf (aux.getD 0 0)).1) else zwd (aux.getD 4 0) (.methodLinkNest own i (zinf (aux.getD 0 0)).1 "SilkRise"))) = true := hc
  have h : (if aux.getD 0 0 = 9999 then _ else _) = some rr := h
  by_cases h9 : aux.getD 0 0 = 9999
  · rw [if_pos h9] at h hc
    simp only [Bool.and_eq_true] at hc
    obtain ⟨⟨⟨w1, w2⟩, w3⟩, w4⟩ := hc
    obtain ⟨n, st, rfl, h1⟩ := pI_some h
    obtain ⟨dp, st, rfl, h2⟩ := pI_some h1
    obtain ⟨dd, st, rfl, h3⟩ := pA_some h2
    obtain ⟨sp, st, rfl, h4⟩ := pI_some h3
    obtain ⟨ss, st, rfl, h5⟩ := pA_some h4
    obtain ⟨⟨k1, k2, k3, k4, k5, k6, k7⟩, h6⟩ := ite_some h5
    obtain ⟨rfl, h7⟩ := pN_some h6
    clear h h1 h2 h3 h4 h5 h6
    intro ad H locs L had hn1 hn2 hwf hP hD hS hl
    obtain ⟨g1, g2, g3⟩ := zgk k1 (by omega) (by omega) (by omega)
    obtain ⟨f1, f2, f3⟩ := zgk k2 (by omega) (by omega) (by omega)
    have hgs := zws_get (ad := ad) (cA := cA) g1 g2
    rw [zce_int g3 (by omega)] at hgs
    have hgd := zws_get (ad := ad) (cA := cA) f1 f2
    rw [zce_int f3 (by omega)] at hgd
    rw [List.map_cons, List.map_cons, List.map_cons, List.map_cons, List.map_cons, zst_ref (r := ss) (by omega), zst_ref (r := dd) (by omega)]
    refine va_copyi hx hb (hml.trans hl.1.symm) hown (hts _ (zwd_in w1)) (hts _ (zwd_in w2)) (hts _ (zwd_in w3)) (hts _ (zwd_in w4)) hK hP hD hS (ss - 7) (dd - 7) 0 0 hgs hgd rfl rfl rfl (z_neg k3) (z_neg k4) (z_neg k5) (by show sp.toInt.toNat + n.toInt.toNat ≤ _; omega) (by show dp.toInt.toNat + n.toInt.toNat ≤ _; omega) (fun _ _ => rfl) (by omega) (Nat.le_trans (Nat.le_of_ble_eq_true rfl : _ ≤ 60) (by omega)) hdg (fun H1 locs1 hP hD hS => ?_)
    rw [← zws_cI (s := ss) (sp := sp.toNatClampNeg) (dp := dp.toNatClampNeg) (n := n.toNatClampNeg) f1 f2 f3] at hP hD
    exact hk _ _ _ _ h7 ad H1 locs1 L had hn1 hn2 hwf hP hD hS hl
  · rw [if_neg h9] at h hc
    simp only [Bool.and_eq_true] at hc
    obtain ⟨⟨⟨hp, w1⟩, w2⟩, w3⟩ := hc
    obtain ⟨as, st, rfl, hlen, hsum, h1⟩ := pop_some h
    obtain ⟨v, M1, hc1, h2⟩ := cBack_some h1
    obtain ⟨hnn, h3⟩ := ite_some h2
    clear h h1 h2
    have h3 : k (pc + 3) ls (v.toList ++ st) M1 = some rr := h3
    have hm1 := hkm _ _ _ _ h3
    obtain ⟨hmo, hM⟩ := hcal _ _ _ _ _ hc1
    have hz : aux.getD 0 0 < 278 := by unfold zpar at hp; rw [Bool.and_eq_true] at hp; exact of_decide_eq_true hp.1
    obtain ⟨hd3, hml40⟩ := zMok_of (hzm _ hz) hp
    have hf1 : fv.category = 1 := by rcases hfv with rfl | ⟨t, rfl⟩ <;> rfl
    intro ad H locs L had hn1 hn2 hwf hP hD hS hl
    have hA1 : ∀ q, va_A (zws ad cA M) H.size q → A q := fun q hq => by
      rcases hq with ⟨i, x, hi⟩ | hq
      · exact hD.2 i (q, x) hi
      · exact hA q (Nat.le_trans hS.1 hq)
    have hMet := hM D cA fv ad H.size hfv
    have hst : (as.reverse ++ st).map (zv fv ad) = (as.map (zv fv ad)).reverse ++ st.map (zv fv ad) := zstk as st
    have hrm : 2 * (F0 m pc L ((as.reverse ++ st).map (zv fv ad))).monitorRoom + ((st.map (zv fv ad)).map fun v => v.category).sum ≤ 8 := by rw [zsum_map hf1]; show 2 * 0 + _ ≤ 8; omega
    have hGW := zgood hz
    have hlr : 8 + ((zinf (aux.getD 0 0)).2.2.1 + 11) + (zrm d M M1).locals ≤ R.locals := by show 8 + (_ + 11) + 60 * d ≤ _; omega
    by_cases h30 : aux.getD 3 0 = 0
    · rw [if_pos h30] at w3
      exact zcall_go C hk had hn1 hn2 hD hS hl (Or.inl hnn) hmo (va_runS ⟨hx, hb, hml, hown, hts⟩ hMet ⟨callB_of (aux.getD 1 0) hts hGW rfl rfl rfl (hts _ (zwd_in w2)) (hts _ (zwd_in w3)) hd3 ⟨hfr, hlr⟩, hts _ (zwd_in w1)⟩ ⟨zblind, fun U hU hW => ⟨rfl, by rw [hU], hwf, by rw [hU]; exact hP, va_K.moved hW.alike hK, hD.weaken (fun _ _ _ _ => trivial), zX_call (zX_ad hX (fun r hr => had r (by omega))) hS hA1 hU hW, fun w hw hn => nest_warm hn hW (nest_same hn rfl (hts w hw))⟩⟩ rfl (by rw [List.length_map]; exact hlen) hl.1 hst hrm hdg ⟨by omega, by omega⟩) h3
    · rw [if_neg h30] at w3
      exact zcall_go C hk had hn1 hn2 hD hS hl (Or.inl hnn) hmo (va_runSN ⟨hx, hb, hml, hown, hts⟩ hMet ⟨va_cnB (aux.getD 1 0) hts hGW rfl rfl rfl (va_Nw.of rfl (hts _ (zwd_in w3))) (hts _ (zwd_in w2)) hd3 ⟨hfr, hlr⟩, hts _ (zwd_in w1), trivial⟩ ⟨zblind, fun U hU hW => ⟨rfl, by rw [hU], hwf, by rw [hU]; exact hP, va_K.moved hW.alike hK, hD.weaken (fun _ _ _ _ => trivial), zX_call (zX_ad hX (fun r hr => had r (by omega))) hS hA1 hU hW, fun w hw hn => nest_warm hn hW (nest_same hn rfl (hts w hw))⟩⟩ rfl (by rw [List.length_map]; exact hlen) hl.1 hst hrm hdg ⟨by omega, by omega⟩) h3
theorem ss_invokevirtual {p : Program} {l : Launch} {e : Env} {R : Room} {s : State} {m : MethodId} {args : Array Value} {below : List Frame} {meth : Method} {c : Code} {own : String} {cc : ByteArray} {nL : Nat} {ini : Bool} {D : va_G} {cA : Nat → ClassId} {fv : Value} {A : Nat → Prop} {ad0 : Nat → Nat} {d : Nat} {Q : State → Prop} {rr : zR} {M0 : zM} {rt : Option FieldType} {sc : Option (Nat × (Nat → Int32))} {cal : zC} {k : zK}
    (C : zCx p R s m args meth c own cc nL ini D cA fv A ad0 d) (hk : ∀ pc' ls' st' M', k pc' ls' st' M' = some rr → zW p l e R s m args below meth c Q D cA fv A ad0 M0 nL pc' ls' st' M') {pc nxt : Nat} {aux : List Nat} {ld : Option (List Nat)} {ls : zLs} {st : List Value} {M : zM} {i : Nat} (hcal : ∀ z as M v M1, cal z as M = some (v, M1) → (M.1.1 ≤ M1.1.1 ∧ M.1.2.1 ≤ M1.1.2.1) ∧ zMet l d z as M v M1) (hkm : ∀ pc' ls' st' M', k pc' ls' st' M' = some rr → M'.1.1 ≤ rr.2.1.1 ∧ M'.1.2.1 ≤ rr.2.1.2.1) (hR : rr.2.1.1 - M0.1.1 ≤ R.cells ∧ rr.2.1.2.1 - M0.1.2.1 ≤ R.slots) (hzm : ∀ z, z < 278 → zMok z = true)
    (hok : zOk own cc nL rt ini (pc, .invokevirtual i, nxt, aux, ld) = true) (h : stp sc cal (pc, .invokevirtual i, nxt, aux, ld) ls st M k = some rr) : zW p l e R s m args below meth c Q D cA fv A ad0 M0 nL pc ls st M := by
  obtain ⟨hx, hb, hml, hown, hts, hK, hA, hini, hX, hfv, hfr, hlo⟩ := C
  have C : zCx p R s m args meth c own cc nL ini D cA fv A ad0 d := ⟨hx, hb, hml, hown, hts, hK, hA, hini, hX, hfv, hfr, hlo⟩
  have hok : (zchk cc (pc, .invokevirtual i, nxt, aux, ld) 3 && zpar (aux.getD 0 0) (aux.getD 1 0) && zwd (aux.getD 4 0) (.methodLink own i (zinf (aux.getD 0 0)).1) && zwd (aux.getD 5 0) (.instanceMethod (zinf (aux.getD 0 0)).1) && zwd (aux.getD 6 0) (.selects (zinf (aux.getD 0 0)).1.cls (zinf (aux.getD 0 0)).1 (zinf (aux.getD 0 0)).1) && zwd (aux.getD 7 0) (.initialized (zinf (aux.getD 0 0)).1.cls) && (if aux.getD 3 0 = 30 then decide ((zinf (aux.getD 0 0)).1.cls = "java/lang/String") else match zCl[aux.getD 3 0]? with | none => false | some q => decide ((zinf (aux.getD 0 0)).1.cls = q.1))) = true := hok
  simp only [Bool.and_eq_true] at hok
  obtain ⟨⟨⟨⟨⟨⟨hch, hp⟩, w1⟩, w2⟩, w3⟩, w4⟩, hcc⟩ := hok
  obtain ⟨hdg, rfl⟩ := zchk_of hch
  have h : pop (aux.getD 1 0) st (fun as st => pA st fun r st => if gK M r = aux.getD 3 0 then cBack (aux.getD 2 0) (cal (aux.getD 0 0) (.ref r :: as) M) fun v M1 => if M1.1.1 = M.1.1 then k (pc + 3) ls (v ++ st) M1 else none else none) = some rr := h
  obtain ⟨as, st, rfl, hlen, hsum, h1⟩ := pop_some h
  obtain ⟨r, st, rfl, h2⟩ := pA_some h1
  obtain ⟨hg, h4⟩ := ite_some h2
  obtain ⟨v, M1, hc1, h5⟩ := cBack_some h4
  obtain ⟨hnn, h3⟩ := ite_some h5
  clear h h1 h2 h4 h5
  have hg : gK M r = aux.getD 3 0 := hg
  have h3 : k (pc + 3) ls (v.toList ++ st) M1 = some rr := h3
  have hm1 := hkm _ _ _ _ h3
  obtain ⟨hmo, hM⟩ := hcal _ _ _ _ _ hc1
  have hz : aux.getD 0 0 < 278 := by unfold zpar at hp; rw [Bool.and_eq_true] at hp; exact of_decide_eq_true hp.1
  obtain ⟨hd3, hml40⟩ := zMok_of (hzm _ hz) hp
  have hf1 : fv.category = 1 := by rcases hfv with rfl | ⟨t, rfl⟩ <;> rfl
  intro ad H locs L had hn1 hn2 hwf hP hD hS hl
  have hA1 : ∀ q, va_A (zws ad cA M) H.size q → A q := fun q hq => by
    rcases hq with ⟨i, x, hi⟩ | hq
    · exact hD.2 i (q, x) hi
    · exact hA q (Nat.le_trans hS.1 hq)
  have hr0 : 0 < r := by
    rcases Nat.eq_zero_or_pos r with h0 | h0
    · subst h0
      have h99 : gK M 0 = 99 := rfl
      rw [h99] at hg
      rw [← hg] at hcc
      simp [zCl] at hcc
    · exact h0
  have hMet := hM D cA fv ad H.size hfv
  rw [List.map_cons, zst_ref hr0] at hMet
  have hst : (as.reverse ++ .ref r :: st).map (zv fv ad) = (as.map (zv fv ad)).reverse ++ .ref (ad r) :: st.map (zv fv ad) := by rw [zstk, List.map_cons, zst_ref hr0]
  have hsum : zsum (.ref r :: st) ≤ 8 := hsum
  have hsum2 : zsum (.ref r :: st) = 1 + zsum st := by unfold zsum; rw [List.map_cons, List.sum_cons]; rfl
  have hrm : 2 * (F0 m pc L ((as.reverse ++ .ref r :: st).map (zv fv ad))).monitorRoom + ((st.map (zv fv ad)).map fun v => v.category).sum ≤ 8 := by rw [zsum_map hf1]; show 2 * 0 + _ ≤ 8; omega
  have hGW := zgood hz
  have hlr : 8 + ((zinf (aux.getD 0 0)).2.2.1 + 11) + (zrm d M M1).locals ≤ R.locals := by show 8 + (_ + 11) + 60 * d ≤ _; omega
  have hrecv : ∃ cell : Cell, H[ad r]? = some cell ∧ cell.vm.isStatics = false ∧ s.vm.findClass (zinf (aux.getD 0 0)).1.cls = some cell.cls := by
    by_cases h30 : aux.getD 3 0 = 30
    · rw [if_pos h30] at hcc
      rw [of_decide_eq_true hcc]
      have hr2 := zgk30 (hg.trans h30) (fun a => by have := hwf.2 a; omega)
      rw [had r (Or.inl (by omega))]
      rcases hr2 with rfl | rfl
      · exact vk_recv hX.1 (i := 0) (by omega) hS
      · exact vk_recv hX.1 (i := 1) (by omega) hS
    · rw [if_neg h30] at hcc
      cases hq : zCl[aux.getD 3 0]? with
      | none => rw [hq] at hcc; cases hcc
      | some q =>
        rw [hq] at hcc
        have hcc : (zinf (aux.getD 0 0)).1.cls = q.1 := of_decide_eq_true hcc
        rw [hcc]
        have hci := zcl_lt hq
        obtain ⟨g1, g2, g3⟩ := zgk hg (by omega) (by omega) (by omega)
        have hget := zws_get (ad := ad) (cA := cA) g1 g2
        rw [zce_obj g3 hci] at hget
        exact va_recv hK hP hq hget
  exact zcall_go C hk had hn1 hn2 hD hS hl (Or.inl hnn) hmo (va_runV ⟨hx, hb, hml, hown, hts⟩ hMet ⟨callB_of (aux.getD 1 0) hts hGW rfl rfl rfl (hts _ (zwd_in w4)) (hts _ (zwd_in w1)) hd3 ⟨hfr, hlr⟩, hts _ (zwd_in w2), hts _ (zwd_in w3)⟩ ⟨zblind, hrecv, fun U hU hW => ⟨rfl, by rw [hU], hwf, by rw [hU]; exact hP, va_K.moved hW.alike hK, hD.weaken (fun _ _ _ _ => trivial), zX_call (zX_ad hX (fun r hr => had r (by omega))) hS hA1 hU hW, fun w hw hn => nest_warm hn hW (nest_same hn rfl (hts w hw))⟩⟩ rfl (by rw [List.length_map]; exact hlen) hl.1 hst hrm hdg ⟨by omega, by omega⟩) h3
theorem ss_invokespecial {p : Program} {l : Launch} {e : Env} {R : Room} {s : State} {m : MethodId} {args : Array Value} {below : List Frame} {meth : Method} {c : Code} {own : String} {cc : ByteArray} {nL : Nat} {ini : Bool} {D : va_G} {cA : Nat → ClassId} {fv : Value} {A : Nat → Prop} {ad0 : Nat → Nat} {d : Nat} {Q : State → Prop} {rr : zR} {M0 : zM} {rt : Option FieldType} {sc : Option (Nat × (Nat → Int32))} {cal : zC} {k : zK}
    (C : zCx p R s m args meth c own cc nL ini D cA fv A ad0 d) (hk : ∀ pc' ls' st' M', k pc' ls' st' M' = some rr → zW p l e R s m args below meth c Q D cA fv A ad0 M0 nL pc' ls' st' M') {pc nxt : Nat} {aux : List Nat} {ld : Option (List Nat)} {ls : zLs} {st : List Value} {M : zM} {i : Nat} (hcal : ∀ z as M v M1, cal z as M = some (v, M1) → (M.1.1 ≤ M1.1.1 ∧ M.1.2.1 ≤ M1.1.2.1) ∧ zMet l d z as M v M1) (hkm : ∀ pc' ls' st' M', k pc' ls' st' M' = some rr → M'.1.1 ≤ rr.2.1.1 ∧ M'.1.2.1 ≤ rr.2.1.2.1) (hR : rr.2.1.1 - M0.1.1 ≤ R.cells ∧ rr.2.1.2.1 - M0.1.2.1 ≤ R.slots) (hzm : ∀ z, z < 278 → zMok z = true)
    (hok : zOk own cc nL rt ini (pc, .invokespecial i, nxt, aux, ld) = true) (h : stp sc cal (pc, .invokespecial i, nxt, aux, ld) ls st M k = some rr) : zW p l e R s m args below meth c Q D cA fv A ad0 M0 nL pc ls st M := by
  obtain ⟨hx, hb, hml, hown, hts, hK, hA, hini, hX, hfv, hfr, hlo⟩ := C
  have C : zCx p R s m args meth c own cc nL ini D cA fv A ad0 d := ⟨hx, hb, hml, hown, hts, hK, hA, hini, hX, hfv, hfr, hlo⟩
  obtain ⟨hdg, rfl, hc⟩ := zchk_of2 hok
  have hc : (if aux.getD 0 0 = 9998 then zwd (aux.getD 1 0) (.methodLink own i Lib.objectInit) && zwd (aux.getD 2 0) (.instanceMethod Lib.objectInit) && zwd (aux.getD 3 0) (.code Lib.objectInit ⟨#[0xb1]⟩ 1 none) else zpar (aux.getD 0 0) (aux.getD 1 0) && zwd (aux.getD 3 0) (.methodLink own i (zinf (aux.getD 0 0)).1) && zwd (aux.getD 4 0) (.instanceMethod (zinf (aux.getD 0 0)).1) && zwd (aux.getD 5 0) (.initialized (zinf (aux.getD 0 0)).1.cls) && decide ((zinf (aux.getD 0 0)).1.name = "<init>") && decide ((zinf (aux.getD 0 0)).2.2.2 = none)) = true := hc
  have h : (if aux.getD 0 0 = 9998 then _ else _) = some rr := h
  by_cases h9 : aux.getD 0 0 = 9998
  · rw [if_pos h9] at h hc
    simp only [Bool.and_eq_true] at hc
    obtain ⟨⟨w1, w2⟩, w3⟩ := hc
    obtain ⟨r, st, rfl, h1⟩ := pA_some h
    obtain ⟨hr0, h3⟩ := ite_some h1
    obtain ⟨rfl, h2⟩ := pN_some h3
    clear h h1 h3
    intro ad H locs L had hn1 hn2 hwf hP hD hS hl
    have hgo := hk _ _ _ _ h2 ad H locs L had hn1 hn2 hwf hP hD hS hl
    rw [List.map_cons, zst_ref hr0]
    exact W.objInit hx hb hown (hts _ (zwd_in w1)) (hts _ (zwd_in w2)) (hts _ (zwd_in w3)) rfl (hl.1.trans hml.symm) rfl hdg (by omega) (by show 2 * 0 + 0 + 12 ≤ _; omega) hgo
  · rw [if_neg h9] at h hc
    simp only [Bool.and_eq_true, decide_eq_true_eq] at hc
    obtain ⟨⟨⟨⟨⟨hp, w1⟩, w2⟩, w3⟩, w4⟩, w5⟩ := hc
    obtain ⟨as, st, rfl, hlen, hsum, h1⟩ := pop_some h
    obtain ⟨r, st, rfl, h2⟩ := pA_some h1
    obtain ⟨⟨hr0, hoks⟩, h4⟩ := ite_some h2
    obtain ⟨v, M1, hc1, h3⟩ := cBack_some h4
    clear h h1 h2 h4
    have h3 : k (pc + 3) ls (v.toList ++ st) M1 = some rr := h3
    have hm1 := hkm _ _ _ _ h3
    obtain ⟨hmo, hM⟩ := hcal _ _ _ _ _ hc1
    have hz : aux.getD 0 0 < 278 := by unfold zpar at hp; rw [Bool.and_eq_true] at hp; exact of_decide_eq_true hp.1
    obtain ⟨hd3, hml40⟩ := zMok_of (hzm _ hz) hp
    have hf1 : fv.category = 1 := by rcases hfv with rfl | ⟨t, rfl⟩ <;> rfl
    intro ad H locs L had hn1 hn2 hwf hP hD hS hl
    have hA1 : ∀ q, va_A (zws ad cA M) H.size q → A q := fun q hq => by
      rcases hq with ⟨i, x, hi⟩ | hq
      · exact hD.2 i (q, x) hi
      · exact hA q (Nat.le_trans hS.1 hq)
    have hMet := hM D cA fv ad H.size hfv
    rw [List.map_cons, zst_ref hr0] at hMet
    have hst : (as.reverse ++ .ref r :: st).map (zv fv ad) = (as.map (zv fv ad)).reverse ++ .ref (ad r) :: st.map (zv fv ad) := by rw [zstk, List.map_cons, zst_ref hr0]
    have hsum : zsum (.ref r :: st) ≤ 8 := hsum
    have hsum2 : zsum (.ref r :: st) = 1 + zsum st := by unfold zsum; rw [List.map_cons, List.sum_cons]; rfl
    have hrm : 2 * (F0 m pc L ((as.reverse ++ .ref r :: st).map (zv fv ad))).monitorRoom + ((st.map (zv fv ad)).map fun v => v.category).sum ≤ 8 := by rw [zsum_map hf1]; show 2 * 0 + _ ≤ 8; omega
    have hGW := zgood hz
    have hlr : 8 + ((zinf (aux.getD 0 0)).2.2.1 + 11) + (zrm d M M1).locals ≤ R.locals := by show 8 + (_ + 11) + 60 * d ≤ _; omega
    have hwz : zw (aux.getD 0 0) = Cond.code (zinf (aux.getD 0 0)).1 (zinf (aux.getD 0 0)).2.1 (zinf (aux.getD 0 0)).2.2.1 none :: zTb.filter goodWord := by unfold zw; rw [w5]
    exact zcall_go C hk had hn1 hn2 hD hS hl (Or.inr hoks) hmo (va_runI ⟨hx, hb, hml, hown, hts⟩ hMet ⟨callB_of (aux.getD 1 0) hts hGW hwz rfl rfl (hts _ (zwd_in w3)) (hts _ (zwd_in w1)) hd3 ⟨hfr, hlr⟩, w4, hts _ (zwd_in w2)⟩ ⟨zblind, fun U hU hW => ⟨rfl, by rw [hU], hwf, by rw [hU]; exact hP, va_K.moved hW.alike hK, hD.weaken (fun _ _ _ _ => trivial), zX_call (zX_ad hX (fun r hr => had r (by omega))) hS hA1 hU hW, fun w hw hn => nest_warm hn hW (nest_same hn rfl (hts w hw))⟩⟩ rfl (by rw [List.length_map]; exact hlen) hl.1 hst hrm hdg ⟨by omega, by omega⟩) h3
theorem z_char {x : Int32} (h : 0 ≤ x.toInt ∧ x.toInt < 65536) : narrow .char (.int x) = .int x := by
  show Value.int x.toUInt32.toUInt16.toUInt32.toInt32 = .int x
  congr 1
  obtain ⟨n, hn, rfl⟩ := nI_of (x := x) (fun q => by have := Int32.lt_iff_toInt_lt.mp q; have e : (0 : Int32).toInt = 0 := rfl; omega)
  have hn2 : n < 65536 := by have := nI_toInt hn; omega
  apply Int32.toBitVec.inj
  apply BitVec.eq_of_toNat_eq
  show (((BitVec.ofNat 32 n).setWidth 16).setWidth 32).toNat = (BitVec.ofNat 32 n).toNat
  simp only [BitVec.toNat_setWidth, BitVec.toNat_ofNat]
  omega
theorem z_byte {x : Int32} (h : -128 ≤ x.toInt ∧ x.toInt < 128) : narrow .byte (.int x) = .int x := by
  show Value.int x.toInt8.toInt32 = .int x
  congr 1
  apply Int32.toInt_inj.mp
  rw [Int8.toInt_toInt32, Int32.toInt_toInt8]
  show (if x.toInt % 256 < (256 + 1) / 2 then x.toInt % 256 else x.toInt % 256 - 256) = x.toInt
  split <;> omega
theorem ss_ireturn {p : Program} {l : Launch} {e : Env} {R : Room} {s : State} {m : MethodId} {args : Array Value} {below : List Frame} {meth : Method} {c : Code} {own : String} {cc : ByteArray} {nL : Nat} {ini : Bool} {D : va_G} {cA : Nat → ClassId} {fv : Value} {A : Nat → Prop} {ad0 : Nat → Nat} {d : Nat} {Q : State → Prop} {rr : zR} {M0 : zM} {rt : Option FieldType} {sc : Option (Nat × (Nat → Int32))} {cal : zC} {k : zK}
    (C : zCx p R s m args meth c own cc nL ini D cA fv A ad0 d) (hk : ∀ pc' ls' st' M', k pc' ls' st' M' = some rr → zW p l e R s m args below meth c Q D cA fv A ad0 M0 nL pc' ls' st' M') {pc nxt : Nat} {aux : List Nat} {ld : Option (List Nat)} {ls : zLs} {st : List Value} {M : zM} (hret : ∀ (ad : Nat → Nat) (H : Heap) (locs : List Loc) (L : Array Slot) (pc : Nat) (st : List Value), (∀ r, (r < M0.1.1 + 7 ∨ rr.2.1.1 + 7 ≤ r) → ad r = ad0 r) → M0.1.1 ≤ rr.2.1.1 → M0.1.2.1 ≤ rr.2.1.2.1 → zwf rr.2 → va_P D zCl (zws ad cA rr.2) H → va_D A (zws ad cA rr.2) → va_S A s.heap H locs → zRet cc rt pc st (rr.1.map (zv fv ad)) → W p l e R s m args below meth c H locs (rr.2.1.1 - M0.1.1) (rr.2.1.2.1 - M0.1.2.1) Q (F0 m pc L st))
    (hok : zOk own cc nL rt ini (pc, .ireturn, nxt, aux, ld) = true) (h : stp sc cal (pc, .ireturn, nxt, aux, ld) ls st M k = some rr) : zW p l e R s m args below meth c Q D cA fv A ad0 M0 nL pc ls st M := by
  obtain ⟨hx, hb, hml, hown, hts, hK, hA, hini, hX, hfv, hfr, hlo⟩ := C
  obtain ⟨hdg, rfl, hc⟩ := zchk_of2 hok
  obtain ⟨x, st, rfl, h1⟩ := pI_some h
  obtain ⟨rfl, h2⟩ := pN_some h1
  clear h h1
  have hc : (if aux.getD 0 0 = 0 then decide (rt = some .int) else if aux.getD 0 0 = 1 then decide (rt = some .boolean) else if aux.getD 0 0 = 2 then decide (rt = some .char) else decide (rt = some .byte)) = true := hc
  have h2 : (if aux.getD 0 0 = 0 then some (some (.int x), M) else if aux.getD 0 0 = 1 then (if x = 0 ∨ x = 1 then some (some (.int x), M) else none) else if aux.getD 0 0 = 2 then (if 0 ≤ x.toInt ∧ x.toInt < 65536 then some (some (.int x), M) else none) else if -128 ≤ x.toInt ∧ x.toInt < 128 then some (some (.int x), M) else none) = some rr := h2
  have key : ∀ ty, rt = some ty → narrow ty (.int x) = .int x → some (some (Value.int x), M) = some rr → zW p l e R s m args below meth c Q D cA fv A ad0 M0 nL pc ls [.int x] M := by
    intro ty e1 e2 e3
    cases e3
    intro ad H locs L had hn1 hn2 hwf hP hD hS hl
    exact hret ad H locs L pc _ had hn1 hn2 hwf hP hD hS (Or.inl ⟨hdg, x, rfl, rfl, ty, e1, e2⟩)
  by_cases h0 : aux.getD 0 0 = 0
  · rw [if_pos h0] at hc h2
    exact key _ (of_decide_eq_true hc) rfl h2
  · rw [if_neg h0] at hc h2
    by_cases h1 : aux.getD 0 0 = 1
    · rw [if_pos h1] at hc h2
      obtain ⟨hx1, h3⟩ := ite_some h2
      exact key _ (of_decide_eq_true hc) (by rcases hx1 with rfl | rfl <;> rfl) h3
    · rw [if_neg h1] at hc h2
      by_cases h5 : aux.getD 0 0 = 2
      · rw [if_pos h5] at hc h2
        obtain ⟨hx1, h3⟩ := ite_some h2
        exact key _ (of_decide_eq_true hc) (z_char hx1) h3
      · rw [if_neg h5] at hc h2
        obtain ⟨hx1, h3⟩ := ite_some h2
        exact key _ (of_decide_eq_true hc) (z_byte hx1) h3
theorem ss_lreturn {p : Program} {l : Launch} {e : Env} {R : Room} {s : State} {m : MethodId} {args : Array Value} {below : List Frame} {meth : Method} {c : Code} {own : String} {cc : ByteArray} {nL : Nat} {ini : Bool} {D : va_G} {cA : Nat → ClassId} {fv : Value} {A : Nat → Prop} {ad0 : Nat → Nat} {d : Nat} {Q : State → Prop} {rr : zR} {M0 : zM} {rt : Option FieldType} {sc : Option (Nat × (Nat → Int32))} {cal : zC} {k : zK}
    (C : zCx p R s m args meth c own cc nL ini D cA fv A ad0 d) (hk : ∀ pc' ls' st' M', k pc' ls' st' M' = some rr → zW p l e R s m args below meth c Q D cA fv A ad0 M0 nL pc' ls' st' M') {pc nxt : Nat} {aux : List Nat} {ld : Option (List Nat)} {ls : zLs} {st : List Value} {M : zM} (hret : ∀ (ad : Nat → Nat) (H : Heap) (locs : List Loc) (L : Array Slot) (pc : Nat) (st : List Value), (∀ r, (r < M0.1.1 + 7 ∨ rr.2.1.1 + 7 ≤ r) → ad r = ad0 r) → M0.1.1 ≤ rr.2.1.1 → M0.1.2.1 ≤ rr.2.1.2.1 → zwf rr.2 → va_P D zCl (zws ad cA rr.2) H → va_D A (zws ad cA rr.2) → va_S A s.heap H locs → zRet cc rt pc st (rr.1.map (zv fv ad)) → W p l e R s m args below meth c H locs (rr.2.1.1 - M0.1.1) (rr.2.1.2.1 - M0.1.2.1) Q (F0 m pc L st))
    (hok : zOk own cc nL rt ini (pc, .lreturn, nxt, aux, ld) = true) (h : stp sc cal (pc, .lreturn, nxt, aux, ld) ls st M k = some rr) : zW p l e R s m args below meth c Q D cA fv A ad0 M0 nL pc ls st M := by
  obtain ⟨hx, hb, hml, hown, hts, hK, hA, hini, hX, hfv, hfr, hlo⟩ := C
  obtain ⟨hdg, rfl, hc⟩ := zchk_of2 hok
  obtain ⟨x, st, rfl, h1⟩ := pL_some h
  obtain ⟨rfl, h2⟩ := pN_some h1
  cases h2
  clear h h1
  intro ad H locs L had hn1 hn2 hwf hP hD hS hl
  exact hret ad H locs L pc _ had hn1 hn2 hwf hP hD hS (Or.inr (Or.inl ⟨hdg, x, rfl, rfl, of_decide_eq_true hc⟩))
theorem ss_return {p : Program} {l : Launch} {e : Env} {R : Room} {s : State} {m : MethodId} {args : Array Value} {below : List Frame} {meth : Method} {c : Code} {own : String} {cc : ByteArray} {nL : Nat} {ini : Bool} {D : va_G} {cA : Nat → ClassId} {fv : Value} {A : Nat → Prop} {ad0 : Nat → Nat} {d : Nat} {Q : State → Prop} {rr : zR} {M0 : zM} {rt : Option FieldType} {sc : Option (Nat × (Nat → Int32))} {cal : zC} {k : zK}
    (C : zCx p R s m args meth c own cc nL ini D cA fv A ad0 d) (hk : ∀ pc' ls' st' M', k pc' ls' st' M' = some rr → zW p l e R s m args below meth c Q D cA fv A ad0 M0 nL pc' ls' st' M') {pc nxt : Nat} {aux : List Nat} {ld : Option (List Nat)} {ls : zLs} {st : List Value} {M : zM} (hret : ∀ (ad : Nat → Nat) (H : Heap) (locs : List Loc) (L : Array Slot) (pc : Nat) (st : List Value), (∀ r, (r < M0.1.1 + 7 ∨ rr.2.1.1 + 7 ≤ r) → ad r = ad0 r) → M0.1.1 ≤ rr.2.1.1 → M0.1.2.1 ≤ rr.2.1.2.1 → zwf rr.2 → va_P D zCl (zws ad cA rr.2) H → va_D A (zws ad cA rr.2) → va_S A s.heap H locs → zRet cc rt pc st (rr.1.map (zv fv ad)) → W p l e R s m args below meth c H locs (rr.2.1.1 - M0.1.1) (rr.2.1.2.1 - M0.1.2.1) Q (F0 m pc L st))
    (hok : zOk own cc nL rt ini (pc, .return_, nxt, aux, ld) = true) (h : stp sc cal (pc, .return_, nxt, aux, ld) ls st M k = some rr) : zW p l e R s m args below meth c Q D cA fv A ad0 M0 nL pc ls st M := by
  obtain ⟨hx, hb, hml, hown, hts, hK, hA, hini, hX, hfv, hfr, hlo⟩ := C
  obtain ⟨hdg, rfl, hc⟩ := zchk_of2 hok
  obtain ⟨rfl, h2⟩ := pN_some h
  cases h2
  clear h
  intro ad H locs L had hn1 hn2 hwf hP hD hS hl
  exact hret ad H locs L pc _ had hn1 hn2 hwf hP hD hS (Or.inr (Or.inr ⟨hdg, rfl, rfl, of_decide_eq_true hc⟩))
