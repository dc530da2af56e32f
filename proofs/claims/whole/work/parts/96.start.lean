/-! THE CLAIM OUT OF THE PURE MACHINE: what is wanting is that the pure law answers 1 -/
theorem zarrA {args : Array Value} {first s : State} {o : Option Outcome} {idx : List Nat} {t : FieldType} (h : (Cond.arrayOver (.array t)).holds args first o s idx = true) :
    ∃ comp c k, s.vm.classes[c]? = some k ∧ k.kind = .array comp (.array t) ∧ s.vm.findClass ("[" ++ (FieldType.array t).toString) = some c := by
  simp only [Cond.holds, Cond.value, beq_iff_eq] at h
  cases hc : s.vm.findClass (FieldType.array t).toString with
  | none => simp [hc] at h
  | some comp =>
    simp only [hc, Option.bind_some, Option.bind_eq_some_iff, Option.map_eq_some_iff] at h
    obtain ⟨c, hi, k, hk, hb⟩ := h
    obtain ⟨hlt, hp, -⟩ := Array.findIdx?_eq_some_iff_getElem.mp hi
    have hkk : s.vm.classes[c] = k := (Array.getElem?_eq_some_iff.mp hk).2
    rw [hkk] at hp
    cases hkind : k.kind with
    | array component ty =>
      rw [hkind] at hb hp
      simp at hb hp
      exact ⟨comp, c, k, hk, by rw [hkind, hp, hb.1], hb.2⟩
    | _ => rw [hkind] at hb; simp at hb
def ztm (i : Nat) : Term := if i = 0 then .string "SilkRise$Tokens" 39 else .string "SilkRise$Tokens" 88
theorem zel : ∀ i, i < 2 → ∀ j, j < ([112, 9] : List Nat).getD i 0 → Cond.eq (.elem (.field (ztm i) "java/lang/String" "value" "[B") (.int (Int32.ofNat j))) (.int ((([zby 4, zby 5] : List (List Int32)).getD i []).getD j 0)) ∈ flatC (Jvm.Cond.and given_1 narrow_1) := by decide +kernel
theorem zex : ∀ i, i < 2 → Cond.exactly (ztm i) "java/lang/String" ∈ flatC (Jvm.Cond.and given_1 narrow_1) := by decide +kernel
theorem zco : ∀ i, i < 2 → Cond.eq (.field (ztm i) "java/lang/String" "coder" "B") (.int 0) ∈ flatC (Jvm.Cond.and given_1 narrow_1) := by decide +kernel
theorem zar : ∀ i, i < 2 → Cond.arrayOf (.field (ztm i) "java/lang/String" "value" "[B") .byte ∈ flatC (Jvm.Cond.and given_1 narrow_1) := by decide +kernel
theorem zle : ∀ i, i < 2 → Cond.eq (.length (.field (ztm i) "java/lang/String" "value" "[B")) (.int (Int32.ofNat (([112, 9] : List Nat).getD i 0))) ∈ flatC (Jvm.Cond.and given_1 narrow_1) := by decide +kernel
theorem zne : Cond.not (Cond.eq (ztm 0) (ztm 1)) ∈ flatC (Jvm.Cond.and given_1 narrow_1) := by decide +kernel
theorem zcs : Cond.eq (.static "java/lang/String" "COMPACT_STRINGS" "Z") (.int 1) ∈ flatC (Jvm.Cond.and given_1 narrow_1) := by decide +kernel
theorem zsf : Cond.isRef (.static "jdk/internal/util/Preconditions" "SIOOBE_FORMATTER" "Ljava/util/function/BiFunction;") ∈ flatC (Jvm.Cond.and given_1 narrow_1) := by decide +kernel
theorem zws0 : Cond.stringRef "SilkRise$Tokens" 39 "load silk hook lift wind ties pays rim gusts seed if then else hour day size weight high across price up stored " ∈ lw_tbl := List.mem_of_getElem? (i := 287) (by decide +kernel)
theorem zws1 : Cond.stringRef "SilkRise$Tokens" 88 ";=+-*/<()" ∈ lw_tbl := List.mem_of_getElem? (i := 631) (by decide +kernel)
theorem zls0 : Cond.laysStatic "java/lang/String" "COMPACT_STRINGS" "Z" ∈ lw_tbl := List.mem_of_getElem? (i := 297) (by decide +kernel)
theorem zls1 : Cond.laysStatic "jdk/internal/util/Preconditions" "SIOOBE_FORMATTER" "Ljava/util/function/BiFunction;" ∈ lw_tbl := List.mem_of_getElem? (i := 313) (by decide +kernel)
theorem zin0 : Cond.initialized "java/lang/String" ∈ lw_tbl := List.mem_of_getElem? (i := 113) (by decide +kernel)
theorem zin1 : Cond.initialized "jdk/internal/util/Preconditions" ∈ lw_tbl := List.mem_of_getElem? (i := 115) (by decide +kernel)
theorem zac20 : Cond.arrayClass .int ∈ lw_tbl := List.mem_of_getElem? (i := 167) (by decide +kernel)
theorem zac21 : Cond.arrayClass .byte ∈ lw_tbl := List.mem_of_getElem? (i := 166) (by decide +kernel)
theorem zac22 : Cond.arrayClass .boolean ∈ lw_tbl := List.mem_of_getElem? (i := 1506) (by decide +kernel)
theorem zac23 : Cond.arrayClass .long ∈ lw_tbl := List.mem_of_getElem? (i := 365) (by decide +kernel)
theorem zac24 : Cond.arrayOver (.object "SilkRise$State") ∈ lw_tbl := List.mem_of_getElem? (i := 504) (by decide +kernel)
theorem zac25 : Cond.arrayOver (.array .int) ∈ lw_tbl := List.mem_of_getElem? (i := 477) (by decide +kernel)
theorem zis0 : Cond.instantiable RX0 3 ∈ lw_tbl := List.mem_of_getElem? (i := 416) (by decide +kernel)
theorem zis1 : Cond.instantiable RX1 8 ∈ lw_tbl := List.mem_of_getElem? (i := 432) (by decide +kernel)
theorem zis2 : Cond.instantiable RX2 6 ∈ lw_tbl := List.mem_of_getElem? (i := 471) (by decide +kernel)
theorem zis3 : Cond.instantiable RX3 3 ∈ lw_tbl := List.mem_of_getElem? (i := 208) (by decide +kernel)
theorem zis4 : Cond.instantiable RX4 5 ∈ lw_tbl := List.mem_of_getElem? (i := 498) (by decide +kernel)
theorem zis5 : Cond.instantiable RX5 5 ∈ lw_tbl := List.mem_of_getElem? (i := 136) (by decide +kernel)
theorem zis6 : Cond.instantiable RX6 10 ∈ lw_tbl := List.mem_of_getElem? (i := 276) (by decide +kernel)
theorem zis7 : Cond.instantiable RX7 3 ∈ lw_tbl := List.mem_of_getElem? (i := 400) (by decide +kernel)
theorem zis8 : Cond.instantiable RX8 6 ∈ lw_tbl := List.mem_of_getElem? (i := 142) (by decide +kernel)
theorem zis9 : Cond.instantiable RX9 4 ∈ lw_tbl := List.mem_of_getElem? (i := 148) (by decide +kernel)
theorem zis10 : Cond.instantiable RX10 8 ∈ lw_tbl := List.mem_of_getElem? (i := 282) (by decide +kernel)
theorem zis11 : Cond.instantiable RX11 14 ∈ lw_tbl := List.mem_of_getElem? (i := 128) (by decide +kernel)
theorem zis12 : Cond.instantiable RX12 82 ∈ lw_tbl := List.mem_of_getElem? (i := 1236) (by decide +kernel)
theorem zis : ∀ (ci : Nat) (q : vw_C), zCl[ci]? = some q → Cond.instantiable q.1 q.2.2 ∈ lw_tbl
  | 0, _, h => by cases h; exact zis0
  | 1, _, h => by cases h; exact zis1
  | 2, _, h => by cases h; exact zis2
  | 3, _, h => by cases h; exact zis3
  | 4, _, h => by cases h; exact zis4
  | 5, _, h => by cases h; exact zis5
  | 6, _, h => by cases h; exact zis6
  | 7, _, h => by cases h; exact zis7
  | 8, _, h => by cases h; exact zis8
  | 9, _, h => by cases h; exact zis9
  | 10, _, h => by cases h; exact zis10
  | 11, _, h => by cases h; exact zis11
  | 12, _, h => by cases h; exact zis12
  | n + 13, q, h => by simp [zCl] at h
theorem zprim {args : Array Value} {s : State} {ty : FieldType} (hp : ∀ n, ty ≠ .object n) (h : (Cond.arrayClass ty).before args s = true) : ∃ c : ClassId, ArrOfT s c ty ∧ va_RA s c ty := by
  obtain ⟨c, k, comp, h1, h2, h3⟩ := Cond.arrayClass_spec h
  refine ⟨c, fun n z => ⟨fun k h => (by cases h), k, h2, comp, h3⟩, ?_⟩
  cases ty with
  | object n => exact absurd rfl (hp n)
  | _ => exact h1
set_option maxHeartbeats 4000000 in
theorem whole_from (hpure : ∀ (L : Nat) (xs : Nat → Int32), L ≤ 3072 → ∃ (d : Nat) (Mf : zM), d ≤ 1000 ∧ evk zcod (some (L, xs)) d zc_law 0 [(0, .ref 1)] [] zM0 = some (some (.int 1), Mf) ∧ Mf.1.1 ≤ 600000 ∧ Mf.1.2.1 ≤ 7302250)
    {p : Program} {e : Env} {s : State} {m : MethodId} {below : List Frame} {meth : Method} {c : Code} (l : Launch) {b L : Nat} {xs : Nat → Int32} (hL : L ≤ 3072) (C0 : lw_At p s m meth c b L xs) : W p l e room_1 s m #[Value.ref b] below meth c s.heap [] 0 0 (lw_Z below #[Value.ref b] s) (entryFrame m ([Value.ref b] : List Value).toArray 4) := by
  obtain ⟨hx, hb, hr, hml, hown, hts, hX, hbl, hlocks, hgv⟩ := C0
  obtain ⟨d, Mf, hd, hev, hc1, hc2⟩ := hpure L xs hL
  obtain ⟨n, hex⟩ := evk_ex hev
  have hn := flat_of_before _ hgv
  have hK0 : ∀ ci : Nat, ∃ (cC : ClassId), ∃ (iS : Nat → Nat), ∀ q, zCl[ci]? = some q → u_Kn s q.1 q.2.1 q.2.2 cC iS := fun ci => by
    cases hq : zCl[ci]? with
    | none => exact ⟨0, fun _ => 0, fun q h => by cases h⟩
    | some q =>
      obtain ⟨cC, iS, h⟩ := u_known hts (zcl_ok ci q hq).1 (hts _ (zis ci q hq))
      exact ⟨cC, iS, fun q' h' => by cases h'; exact h⟩
  obtain ⟨dC, hK1⟩ := Classical.skolem.mp hK0
  obtain ⟨dI, hK2⟩ := Classical.skolem.mp hK1
  obtain ⟨a0, r0⟩ := zprim (s := s) (ty := .int) (fun _ h => by cases h) (hts _ zac20)
  obtain ⟨a1, r1⟩ := zprim (s := s) (ty := .byte) (fun _ h => by cases h) (hts _ zac21)
  obtain ⟨a2, r2⟩ := zprim (s := s) (ty := .boolean) (fun _ h => by cases h) (hts _ zac22)
  obtain ⟨a3, r3⟩ := zprim (s := s) (ty := .long) (fun _ h => by cases h) (hts _ zac23)
  obtain ⟨p4, a4, k4, q1, q2, q3, q4, q5⟩ := Cond.arrayOver_spec (hts _ zac24)
  obtain ⟨p5, a5, k5, u1, u2, u3⟩ := zarrA (hts _ zac25)
  let cA : Nat → ClassId := fun k => if k = 20 then a0 else if k = 21 then a1 else if k = 22 then a2 else if k = 23 then a3 else if k = 24 then a4 else a5
  have hK : va_K (dC, dI) zCl (ztys cA) s := by
    refine ⟨fun ci q hq => hK2 ci q hq, fun k q hq => ?_⟩
    match k, hq with
    | 0, hq => cases hq; exact r0
    | 1, hq => cases hq; exact r1
    | 2, hq => cases hq; exact r2
    | 3, hq => cases hq; exact r3
    | 4, hq => cases hq; exact ⟨fun N z => ⟨(fun k h => by cases h), k4, q3, p4, q4⟩, k4, p4, q3, q4, q1, q5⟩
    | 5, hq => cases hq; exact ⟨fun N z => ⟨(fun k h => by cases h), k5, u1, p5, u2⟩, u3⟩
    | k + 6, hq => simp [ztys] at hq
  have hA0 : ∀ a : Nat, a < s.heap.size → ¬ s.heap.size ≤ a := fun a h => Nat.not_le.mpr h
  obtain ⟨adK, adV, hS, hev2⟩ := vk_Sof (N := 2) (tm := ztm) (len := [112, 9]) (byt := [zby 4, zby 5]) (A := fun q => s.heap.size ≤ q) (fun i hi => by
    rcases (show i = 0 ∨ i = 1 by omega) with rfl | rfl <;> decide) (fun i hi => hn _ (zex i hi)) (fun i hi => hn _ (zco i hi)) (fun i hi => hn _ (zar i hi)) (fun i hi => hn _ (zle i hi)) (fun i hi j hj => hn _ (zel i hi j hj)) (fun i j hi hj hne => by
    rcases (show (i = 0 ∧ j = 1) ∨ (i = 1 ∧ j = 0) by omega) with ⟨rfl, rfl⟩ | ⟨rfl, rfl⟩
    · exact Or.inl (hn _ zne)
    · exact Or.inr (hn _ zne)) hA0
  have hZ0 := va_Zof (A := fun q => s.heap.size ≤ q) (hts _ zls0) (hts _ zin0) (va_eqi (hn _ zcs)) hA0
  obtain ⟨fv, hfv, hZ1⟩ : ∃ fv : Value, (fv = .null ∨ ∃ t, fv = .ref t) ∧ va_Z "jdk/internal/util/Preconditions" "SIOOBE_FORMATTER" "Ljava/util/function/BiFunction;" fv (fun q => s.heap.size ≤ q) s s.heap := by
    rcases va_Zqof (A := fun q => s.heap.size ≤ q) (hts _ zls1) (hts _ zin1) (hn _ zsf) hA0 with h | ⟨t, h⟩
    · exact ⟨.null, Or.inl rfl, h⟩
    · exact ⟨.ref t, Or.inr ⟨t, rfl⟩, h⟩
  let ad0 : Nat → Nat := fun r => if r = 1 then b else if r = 2 then adK 0 else if r = 3 then adK 1 else if r = 4 then adV 0 else if r = 5 then adV 1 else 0
  have hzX : zX ad0 fv (fun q => s.heap.size ≤ q) s s.heap := by
    refine ⟨⟨fun i hi => ?_, fun i j hi hj hij => ?_⟩, vk_R.of (hts _ zws0) (hev2 0 (by omega)), vk_R.of (hts _ zws1) (hev2 1 (by omega)), hZ0, hZ1⟩
    · rcases (show i = 0 ∨ i = 1 by omega) with rfl | rfl
      · exact hS.1 0 (by omega)
      · exact hS.1 1 (by omega)
    · rcases (show i = 0 ∨ i = 1 by omega) with rfl | rfl <;> rcases (show j = 0 ∨ j = 1 by omega) with rfl | rfl
      · rfl
      · exact hS.2 0 1 (by omega) (by omega) hij
      · exact hS.2 1 0 (by omega) (by omega) hij
      · rfl
  have C : zCx p room_1 s m #[Value.ref b] meth c "SilkRiseLaw" code 4 false (dC, dI) cA fv (fun q => s.heap.size ≤ q) ad0 d :=
    ⟨hx, hb, hml, hown, fun w hw => hts w (zTb_in w hw), hK, fun q h => h, (fun h => by cases h), hzX, hfv, by show d + 1 ≤ 2048; omega, by show 60 * d + 60 ≤ 84000; omega⟩
  have hl := lv_entry ([.ref b]) (n := 4) (Nat.le_of_ble_eq_true rfl)
  rw [lg_entry_eq]
  have hgo := exe_sound (p := p) (l := l) (e := e) (below := below) (Q := lw_Z below #[Value.ref b] s) (rr := (some (.int 1), Mf)) (M0 := zM0) (rt := some .boolean) (sc := some (L, xs)) (cal := mth zcod n d) (cd := zc_law) C (fun L' xs' q => by cases q; exact ⟨hX, hbl, Nat.not_le.mpr hbl⟩)
    (fun z as M v M1 h => mth_sound zmok_all zcok_all l n d z as M v M1 h) ⟨by show Mf.1.1 - 0 ≤ 600000; omega, by show Mf.1.2.1 - 0 ≤ 7302250; omega⟩ zmok_all ?_ (fun ee hee => List.all_eq_true.mp zlok ee hee) (mth_Bd zcod n d) n 0 [(0, .ref 1)] [] zM0 hex
  · exact hgo ad0 s.heap [] _ (fun _ _ => rfl) (Nat.le_refl _) (Nat.le_refl _) ⟨fun _ _ => Nat.zero_lt_succ _, fun _ => by show 0 < 30; omega⟩ (fun k q h => by simp [zws, zM0] at h) ⟨fun i j p q h => by simp [zws, zM0] at h, fun k q h => by simp [zws, zM0] at h⟩ va_S.rf hl
  · intro ad1 H locs L1 pc st a1 a2 a3 a4 a5 a6 a7 hz1
    rcases hz1 with ⟨hdg, x, hv, rfl, ty, ht, hn⟩ | ⟨hdg, x, hv, rfl, ht⟩ | ⟨hdg, hv, rfl, ht⟩
    · have hx1 : x = 1 := by cases hv; rfl
      subst hx1
      exact va_forget (fun q hq => a7.2.2 q hq) (W.widen (k := 600000) (n := 7302250) (by show Mf.1.1 - 0 ≤ 600000; omega) (by show Mf.1.2.1 - 0 ≤ 7302250; omega) (lw_ret hx hb hr hlocks hdg))
    · cases ht
    · cases ht
