/-! THE PURE MACHINE SAYS THE TRUTH, the end of it -/
set_option maxHeartbeats 4000000 in
theorem stp_sound {p : Program} {l : Launch} {e : Env} {R : Room} {s : State} {m : MethodId} {args : Array Value} {below : List Frame} {meth : Method} {c : Code} {own : String} {cc : ByteArray} {nL : Nat} {ini : Bool} {D : va_G} {cA : Nat → ClassId} {fv : Value} {A : Nat → Prop} {ad0 : Nat → Nat} {d : Nat} {Q : State → Prop} {rr : zR} {M0 : zM} {rt : Option FieldType} {sc : Option (Nat × (Nat → Int32))} {cal : zC} {k : zK}
    (C : zCx p R s m args meth c own cc nL ini D cA fv A ad0 d) (hk : ∀ pc' ls' st' M', k pc' ls' st' M' = some rr → zW p l e R s m args below meth c Q D cA fv A ad0 M0 nL pc' ls' st' M') (hsc : ∀ L xs, sc = some (L, xs) → va_X (ad0 1) L xs s s.heap ∧ ad0 1 < s.heap.size ∧ ¬ A (ad0 1)) (hcal : ∀ z as M v M1, cal z as M = some (v, M1) → (M.1.1 ≤ M1.1.1 ∧ M.1.2.1 ≤ M1.1.2.1) ∧ zMet l d z as M v M1) (hkm : ∀ pc' ls' st' M', k pc' ls' st' M' = some rr → M'.1.1 ≤ rr.2.1.1 ∧ M'.1.2.1 ≤ rr.2.1.2.1) (hR : rr.2.1.1 - M0.1.1 ≤ R.cells ∧ rr.2.1.2.1 - M0.1.2.1 ≤ R.slots) (hzm : ∀ z, z < 278 → zMok z = true) (hret : ∀ (ad : Nat → Nat) (H : Heap) (locs : List Loc) (L : Array Slot) (pc : Nat) (st : List Value), (∀ r, (r < M0.1.1 + 7 ∨ rr.2.1.1 + 7 ≤ r) → ad r = ad0 r) → M0.1.1 ≤ rr.2.1.1 → M0.1.2.1 ≤ rr.2.1.2.1 → zwf rr.2 → va_P D zCl (zws ad cA rr.2) H → va_D A (zws ad cA rr.2) → va_S A s.heap H locs → zRet cc rt pc st (rr.1.map (zv fv ad)) → W p l e R s m args below meth c H locs (rr.2.1.1 - M0.1.1) (rr.2.1.2.1 - M0.1.2.1) Q (F0 m pc L st))
    {ee : zE} {ls : zLs} {st : List Value} {M : zM} (hok : zOk own cc nL rt ini ee = true) (h : stp sc cal ee ls st M k = some rr) : zW p l e R s m args below meth c Q D cA fv A ad0 M0 nL ee.1 ls st M := by
  obtain ⟨pc, ins, nxt, aux, ld⟩ := ee
  cases ins
  case iload_n => exact ss_iload_n C hk hok h
  case iload => exact ss_iload C hk hok h
  case lload_n => exact ss_lload_n C hk hok h
  case lload => exact ss_lload C hk hok h
  case aload_n => exact ss_aload_n C hk hok h
  case aload => exact ss_aload C hk hok h
  case istore_n => exact ss_istore_n C hk hok h
  case istore => exact ss_istore C hk hok h
  case astore_n => exact ss_astore_n C hk hok h
  case astore => exact ss_astore C hk hok h
  case lstore_n => exact ss_lstore_n C hk hok h
  case lstore => exact ss_lstore C hk hok h
  case iinc => exact ss_iinc C hk hok h
  case iconst => exact ss_iconst C hk hok h
  case bipush => exact ss_bipush C hk hok h
  case sipush => exact ss_sipush C hk hok h
  case lconst => exact ss_lconst C hk hok h
  case ldc => exact ss_ldc C hk hok h
  case ldc_w => exact ss_ldc_w C hk hok h
  case ldc2_w => exact ss_ldc2_w C hk hok h
  case dup => exact ss_dup C hk hok h
  case dup2 => exact ss_dup2 C hk hok h
  case pop => exact ss_pop C hk hok h
  case iadd => exact ss_iadd C hk hok h
  case isub => exact ss_isub C hk hok h
  case imul => exact ss_imul C hk hok h
  case iand => exact ss_iand C hk hok h
  case ior => exact ss_ior C hk hok h
  case ixor => exact ss_ixor C hk hok h
  case ishl => exact ss_ishl C hk hok h
  case ishr => exact ss_ishr C hk hok h
  case iushr => exact ss_iushr C hk hok h
  case ineg => exact ss_ineg C hk hok h
  case idiv => exact ss_idiv C hk hok h
  case irem => exact ss_irem C hk hok h
  case i2b => exact ss_i2b C hk hok h
  case i2c => exact ss_i2c C hk hok h
  case i2l => exact ss_i2l C hk hok h
  case l2i => exact ss_l2i C hk hok h
  case ladd => exact ss_ladd C hk hok h
  case lmul => exact ss_lmul C hk hok h
  case lcmp => exact ss_lcmp C hk hok h
  case goto => exact ss_goto C hk hok h
  case tableswitch => exact ss_tableswitch C hk hok h
  case getfield => exact ss_getfield C hk hok h
  case putfield => exact ss_putfield C hk hok h
  case getstatic => exact ss_getstatic C hk hok h
  case laload => exact ss_laload C hk hok h
  case baload => exact ss_baload C hk hok h
  case aaload => exact ss_aaload C hk hok h
  case iastore => exact ss_iastore C hk hok h
  case lastore => exact ss_lastore C hk hok h
  case bastore => exact ss_bastore C hk hok h
  case aastore => exact ss_aastore C hk hok h
  case ifCond c o => cases c <;> first | exact ss_ifCond_eq C hk hok h | exact ss_ifCond_ne C hk hok h | exact ss_ifCond_lt C hk hok h | exact ss_ifCond_ge C hk hok h | exact ss_ifCond_gt C hk hok h | exact ss_ifCond_le C hk hok h
  case if_icmp c o => cases c <;> first | exact ss_if_icmp_eq C hk hok h | exact ss_if_icmp_ne C hk hok h | exact ss_if_icmp_lt C hk hok h | exact ss_if_icmp_ge C hk hok h | exact ss_if_icmp_gt C hk hok h | exact ss_if_icmp_le C hk hok h
  case iaload => exact ss_iaload C hk hsc hok h
  case arraylength => exact ss_arraylength C hk hsc hok h
  case new => exact ss_new C hk hkm hR hok h
  case newarray => exact ss_newarray C hk hkm hR hok h
  case anewarray => exact ss_anewarray C hk hkm hR hok h
  case multianewarray i dd =>
    have hd2 : dd = 2 := by
      have hok : (zchk cc (pc, .multianewarray i dd, nxt, aux, ld) 4 && decide (dd = 2) && _ && _ && _) = true := hok
      simp only [Bool.and_eq_true, decide_eq_true_eq] at hok
      exact hok.1.1.1.2
    subst hd2
    exact ss_multianewarray C hk hkm hR hok h
  case invokestatic => exact ss_invokestatic C hk hcal hkm hR hzm hok h
  case invokevirtual => exact ss_invokevirtual C hk hcal hkm hR hzm hok h
  case invokespecial => exact ss_invokespecial C hk hcal hkm hR hzm hok h
  case ireturn => exact ss_ireturn C hk hret hok h
  case lreturn => exact ss_lreturn C hk hret hok h
  case return_ => exact ss_return C hk hret hok h
  all_goals exact absurd h (fun q => by cases q)
theorem exe_sound {p : Program} {l : Launch} {e : Env} {R : Room} {s : State} {m : MethodId} {args : Array Value} {below : List Frame} {meth : Method} {c : Code} {own : String} {cc : ByteArray} {nL : Nat} {ini : Bool} {D : va_G} {cA : Nat → ClassId} {fv : Value} {A : Nat → Prop} {ad0 : Nat → Nat} {d : Nat} {Q : State → Prop} {rr : zR} {M0 : zM} {rt : Option FieldType} {sc : Option (Nat × (Nat → Int32))} {cal : zC}
    (C : zCx p R s m args meth c own cc nL ini D cA fv A ad0 d)  {cd : List zE} (hsc : ∀ L xs, sc = some (L, xs) → va_X (ad0 1) L xs s s.heap ∧ ad0 1 < s.heap.size ∧ ¬ A (ad0 1)) (hcal : ∀ z as M v M1, cal z as M = some (v, M1) → (M.1.1 ≤ M1.1.1 ∧ M.1.2.1 ≤ M1.1.2.1) ∧ zMet l d z as M v M1) (hR : rr.2.1.1 - M0.1.1 ≤ R.cells ∧ rr.2.1.2.1 - M0.1.2.1 ≤ R.slots) (hzm : ∀ z, z < 278 → zMok z = true) (hret : ∀ (ad : Nat → Nat) (H : Heap) (locs : List Loc) (L : Array Slot) (pc : Nat) (st : List Value), (∀ r, (r < M0.1.1 + 7 ∨ rr.2.1.1 + 7 ≤ r) → ad r = ad0 r) → M0.1.1 ≤ rr.2.1.1 → M0.1.2.1 ≤ rr.2.1.2.1 → zwf rr.2 → va_P D zCl (zws ad cA rr.2) H → va_D A (zws ad cA rr.2) → va_S A s.heap H locs → zRet cc rt pc st (rr.1.map (zv fv ad)) → W p l e R s m args below meth c H locs (rr.2.1.1 - M0.1.1) (rr.2.1.2.1 - M0.1.2.1) Q (F0 m pc L st)) (hcd : ∀ ee ∈ cd, zOk own cc nL rt ini ee = true) (hcb : ∀ z as M, Bd M.1.1 M.1.2.1 (cal z as M)) :
    ∀ n pc ls st M, exe sc cal cd n pc ls st M = some rr → zW p l e R s m args below meth c Q D cA fv A ad0 M0 nL pc ls st M
  | 0, _, _, _, _, h => by cases h
  | n + 1, pc, ls, st, M, h => by
    unfold exe at h
    split at h
    · cases h
    · rename_i ee he
      obtain ⟨hm, rfl⟩ := zent_mem he
      refine stp_sound C (k := fun pc' ls' st' M' => exe sc cal cd n pc' (zms cd pc' ls') st' M') (fun pc' ls' st' M' hkk => ?_) hsc hcal (fun pc' ls' st' M' hkk => exe_Bd hcb n pc' _ st' M' rr hkk) hR hzm hret (hcd ee hm) h
      have ih := exe_sound C hsc hcal hR hzm hret hcd hcb n pc' _ st' M' hkk
      intro ad H locs L a1 a2 a3 a4 a5 a6 a7 a8
      exact ih ad H locs L a1 a2 a3 a4 a5 a6 a7 (lv_fewer a8 fun q hq => by
        obtain ⟨q0, h0, rfl⟩ := List.mem_map.mp hq
        exact List.mem_map.mpr ⟨q0, zms_mem h0, rfl⟩)
theorem zcodL_len : zcodL.length = 278 := by decide +kernel
theorem lg_len (vs : List Value) : (lg_sl vs).length = (vs.map fun v => v.category).sum := by
  induction vs with
  | nil => rfl
  | cons v r ih =>
    show ((if v.category = 2 then [Slot.val v, .second] else [.val v]) ++ lg_sl r).length = _
    rw [List.length_append, ih, List.map_cons, List.sum_cons]
    congr 1
    cases v <;> rfl
theorem lv_args_map {fv : Value} {ad : Nat → Nat} (hf : fv.category = 1) : ∀ (vs : List Value) (i : Nat), lv_args i (vs.map (zv fv ad)) = (lv_args i vs).map (zq fv ad)
  | [], _ => rfl
  | v :: vs, i => by
    show (i, zv fv ad v) :: lv_args (if (zv fv ad v).category = 2 then i + 2 else i + 1) (vs.map (zv fv ad)) = _
    rw [zv_cat hf, lv_args_map hf vs]
    rfl
set_option maxHeartbeats 4000000 in
theorem mth_sound (hzm : ∀ z, z < 278 → zMok z = true) (hzc : ∀ z, z < 278 → zCok z = true) (l : Launch) (n : Nat) : ∀ d z as M v M1, mth zcod n d z as M = some (v, M1) → (M.1.1 ≤ M1.1.1 ∧ M.1.2.1 ≤ M1.1.2.1) ∧ zMet l d z as M v M1
  | 0, _, _, _, _, _, h => by cases h
  | d + 1, z, as, M, v, M1, h => by
    refine ⟨mth_Bd zcod n (d + 1) z as M _ h, ?_⟩
    have hmo : M.1.1 ≤ M1.1.1 ∧ M.1.2.1 ≤ M1.1.2.1 := mth_Bd zcod n (d + 1) z as M _ h
    obtain ⟨hsl, hex⟩ := ite_some h
    have hz : z < 278 := by
      rcases Nat.lt_or_ge z 278 with q | q
      · exact q
      · have h0 : (zcod z).2 = [] := by
          show zcodL.getD z [] = []
          rw [List.getD_eq_getElem?_getD, List.getElem?_eq_none (by rw [zcodL_len]; exact q)]
          rfl
        rw [h0] at hex
        cases n <;> cases hex
    have hzmz := hzm z hz
    have hzcz := hzc z hz
    intro D cA fv ad sz hfv
    have hf1 : fv.category = 1 := by rcases hfv with rfl | ⟨t, rfl⟩ <;> rfl
    have hpl : plainFor (zinf z).1 = true := by
      unfold zMok at hzmz
      simp only [Bool.and_eq_true] at hzmz
      exact hzmz.2
    refine va_MetF (cc := (zinf z).2.1) (maxL := (zinf z).2.2.1) (ret := (zinf z).2.2.2) hpl rfl ?_
    intro p e s m args below meth c s₁ B hml hv
    obtain ⟨rfl, hsz, hwf, hP, hK, hD0, hX, hNB⟩ := hv
    subst hsz
    have hD := hD0.self (sz := s.heap.size)
    have hw := atoms_spec (ws := zw z) B.pre
    have hts : ∀ w ∈ zTb, w.before (as.map (zv fv ad)).toArray s = true := fun w hw1 => by
      rcases zTb_good w hw1 with h1 | h1
      · exact hw w (List.mem_cons_of_mem _ (List.mem_filter.mpr ⟨hw1, h1⟩))
      · exact nest_same h1 rfl (hNB w hw1 h1)
    have hini : decide ((zinf z).1.name = "<init>") = true → meth.name = "<init>" := fun q => ((name_of_methodNamed B.named B.method).1).trans (of_decide_eq_true q)
    have hlocks := B.notSynchronized
    have hA : ∀ q : Nat, s.heap.size ≤ q → va_A (zws ad cA M) s.heap.size q := fun q hq => Or.inr hq
    have C : zCx p (headSpec (zw z) (zrm (d + 1) M M1)).room s m (as.map (zv fv ad)).toArray meth c (zinf z).1.cls (zinf z).2.1 (zinf z).2.2.1 (decide ((zinf z).1.name = "<init>")) D cA fv (va_A (zws ad cA M) s.heap.size) ad d :=
      ⟨B.exec, B.bytes, hml, findClass_of_methodNamed B.named, hts, hK, hA, hini, hX, hfv, Nat.le_refl _, by show 60 * d + 60 ≤ 60 * (d + 1); omega⟩
    have hlen : (lg_sl (as.map (zv fv ad))).length ≤ (zinf z).2.2.1 := by
      rw [lg_len, zsum_map hf1]
      exact hsl
    have hl := lv_entry (as.map (zv fv ad)) hlen
    rw [lv_args_map hf1] at hl
    rw [lg_entry_eq]
    have hcal : ∀ z as M v M1, mth zcod n d z as M = some (v, M1) → (M.1.1 ≤ M1.1.1 ∧ M.1.2.1 ≤ M1.1.2.1) ∧ zMet l d z as M v M1 := fun z as M v M1 h => mth_sound hzm hzc l n d z as M v M1 h
    have hgo := exe_sound (p := p) (l := l) (e := e) (below := below) (Q := MQ below (zQc D cA fv ad M s.heap.size v M1) (as.map (zv fv ad)).toArray s (M1.1.1 - M.1.1) (M1.1.2.1 - M.1.2.1) (va_A (zws ad cA M) s.heap.size)) (rr := (v, M1)) (M0 := M) (rt := (zinf z).2.2.2) (sc := none) (cal := mth zcod n d) (cd := (zcod z).2) C (fun L xs q => by cases q) hcal ⟨Nat.le_refl _, Nat.le_refl _⟩ hzm ?_ (fun ee hee => List.all_eq_true.mp hzcz ee hee) (mth_Bd zcod n d) n 0 (lv_args 0 as) [] M hex
    · have hgo2 := hgo ad s.heap [] _ (fun _ _ => rfl) (Nat.le_refl _) (Nat.le_refl _) hwf hP hD va_S.rf hl
      rw [Nat.sub_self, Nat.sub_self] at hgo2
      exact hgo2
    · intro ad1 H locs L pc st a1 a2 a3 a4 a5 a6 a7 hz1
      have hq : ∀ (t : State), t.heap = H → zQc D cA fv ad M s.heap.size v M1 (as.map (zv fv ad)).toArray s (.returned (v.map (zv fv ad1))) t := fun t ht => ⟨⟨ad1, a1, a4, rfl, by rw [ht]; exact a5, a6⟩, a7.F ht⟩
      rcases hz1 with ⟨hdg, x, hv, rfl, ty, ht, hn⟩ | ⟨hdg, x, hv, rfl, ht⟩ | ⟨hdg, hv, rfl, ht⟩
      · have hv : v.map (zv fv ad1) = some (.int x) := hv
        rw [hv] at hq
        exact W.zret B.exec B.bytes (B.returns.trans ht) hn (fun t ht _ => hq t ht) a7.2.2 hdg hlocks
      · have hv : v.map (zv fv ad1) = some (.long x) := hv
        rw [hv] at hq
        exact W.lret B.exec B.bytes (B.returns.trans ht) (fun t ht _ => hq t ht) a7.2.2 hdg hlocks
      · have hv : v.map (zv fv ad1) = none := hv
        rw [hv] at hq
        exact W.vret B.exec B.bytes (B.returns.trans ht) (fun t ht _ => hq t ht) a7.2.2 hdg hlocks
