/-! what the tables must say of an instruction for the pure machine's word on it to hold: decided entry by entry -/
def zwd (i : Nat) (c : Jvm.Cond) : Bool := decide (zT i = some c)
theorem zwd_in {i : Nat} {c : Jvm.Cond} (h : zwd i c = true) : c ∈ zTb := zT_in (of_decide_eq_true h)
theorem zcl_ok2 (ci : Nat) (q : vw_C) (h : zCl[ci]? = some q) : (∀ w ∈ u_ws q.1 q.2.1 q.2.2, w ∈ zTb) ∧ (∀ k, k < q.2.2 → parseFieldDescriptor (q.2.1 k).2.2.1 = some (zTy ci k)) ∧ (∀ a, a < q.2.2 → ∀ b, b < q.2.2 → a ≠ b → (q.2.1 a).2.1 ≠ (q.2.1 b).2.1) ∧ zN ci = q.2.2 := by
  obtain ⟨_, h2, h3, h4⟩ := zcl_ok ci q h
  refine ⟨fun w hw => ?_, h2, h3, h4⟩
  refine List.mem_append_right _ (List.mem_append_right _ (List.mem_flatten.mpr ⟨u_ws q.1 q.2.1 q.2.2, ?_, hw⟩))
  have : zuws = zCl.map (fun q => u_ws q.1 q.2.1 q.2.2) := rfl
  rw [this]
  exact List.mem_map.mpr ⟨q, List.mem_of_getElem? h, rfl⟩
theorem zinf_lens : ∀ k, k < 28 → (zinfLL.getD k []).length = if k = 27 then 8 else 10 := by decide +kernel
theorem zinf_mem {z : Nat} (h : z < 278) : zinf z ∈ zinfL := by
  have h1 := zinf_lens (z / 10) (by omega)
  rw [List.getD_eq_getElem?_getD] at h1
  unfold zinf
  rw [List.getD_eq_getElem?_getD (i := z / 10)]
  cases hl : zinfLL[z / 10]? with
  | none =>
    rw [hl] at h1
    simp only [Option.getD_none, List.length_nil] at h1
    split at h1 <;> omega
  | some l =>
    rw [hl] at h1
    simp only [Option.getD_some] at h1 ⊢
    have h2 : z % 10 < l.length := by
      rw [h1]
      split <;> omega
    rw [List.getD_eq_getElem?_getD, List.getElem?_eq_getElem h2]
    exact List.mem_flatten.mpr ⟨l, List.mem_of_getElem? hl, List.getElem_mem h2⟩
theorem zcode_in {z : Nat} (h : z < 278) : Cond.code (zinf z).1 (zinf z).2.1 (zinf z).2.2.1 (zinf z).2.2.2 ∈ zTb :=
  List.mem_append_right _ (List.mem_append_left _ (List.mem_map.mpr ⟨zinf z, zinf_mem h, rfl⟩))
theorem nest_same {w : Jvm.Cond} (hn : nestw w = true) {A A' : Array Value} {u U : State} (h : u.vm = U.vm) (hb : w.before A u = true) : w.before A' U = true := by
  cases w with
  | fieldLinkNest a i b n d hh => exact va_tabs rfl h hb
  | methodLinkNest a i x hh => exact va_tabs rfl h hb
  | arrayOver ty =>
    unfold Cond.before Cond.holds at hb ⊢
    simp only [Cond.value] at hb ⊢
    rw [← h]
    exact hb
  | _ => cases hn
theorem nest_warm {w : Jvm.Cond} (hn : nestw w = true) {s U : State} (hW : s.WarmedH U.vm) (h : w.before #[] s = true) : w.before #[] U = true := by
  cases w with
  | fieldLinkNest a i b n d hh => exact va_Nw.warmF hW h
  | methodLinkNest a i x hh => exact va_Nw.warmM hW h
  | arrayOver ty => exact nest_same (w := .arrayOver ty) rfl (u := s.setVm U.vm) (U := U) rfl ((Cond.arrayOver_setVmC hW.alike ty).trans h)
  | _ => cases hn
def zchk (cc : ByteArray) (e : zE) (n : Nat) : Bool := decide (decode cc e.1 = .ok (e.2.1, n)) && decide (e.2.2.1 = e.1 + n)
def zjmp (e : zE) (off : Int) : Bool := decide ((e.1 : Int) + off = ((ax e 0 : Nat) : Int))
def zat : ArrayType → Nat
  | .int => 20
  | .byte => 21
  | .boolean => 22
  | .long => 23
  | _ => 99
def zfld (own : String) (i : Nat) (e : zE) : Bool := match zCl[ax e 0]? with
  | none => false
  | some q => decide (ax e 1 < q.2.2) && decide (ztc (zTy (ax e 0) (ax e 1)) = if ax e 2 = 3 then 0 else ax e 2) && decide (ax e 2 ≤ 3) && decide ((q.2.1 (ax e 1)).1 = q.1) &&
    (if ax e 4 = 0 then zwd (ax e 3) (.fieldLink own i q.1 (q.2.1 (ax e 1)).2.1 (q.2.1 (ax e 1)).2.2.1) else zwd (ax e 3) (.fieldLinkNest own i q.1 (q.2.1 (ax e 1)).2.1 (q.2.1 (ax e 1)).2.2.1 "SilkRise"))
def zfin (own : String) (ini : Bool) (e : zE) : Bool := match zCl[ax e 0]? with
  | none => false
  | some q => if (q.2.1 (ax e 1)).2.2.2 = true then ini && decide (q.1 = own) && decide (ax e 4 = 0) else true
def zpar (z n : Nat) : Bool := decide (z < 278) && decide ((parseMethodDescriptor (zinf z).1.desc).map (fun d => d.parameters.length) = some n)
def zOk (own : String) (cc : ByteArray) (nL : Nat) (rt : Option FieldType) (ini : Bool) (e : zE) : Bool := match e.2.1 with
  | .iload_n _ => zchk cc e 1
  | .lload_n _ => zchk cc e 1
  | .aload_n _ => zchk cc e 1
  | .iload _ => zchk cc e 2
  | .lload _ => zchk cc e 2
  | .aload _ => zchk cc e 2
  | .istore_n i => zchk cc e 1 && decide (i.val < nL)
  | .astore_n i => zchk cc e 1 && decide (i.val < nL)
  | .lstore_n i => zchk cc e 1 && decide (i.val + 1 < nL)
  | .istore i => zchk cc e 2 && decide (i < nL)
  | .astore i => zchk cc e 2 && decide (i < nL)
  | .lstore i => zchk cc e 2 && decide (i + 1 < nL)
  | .iinc i _ => zchk cc e 3 && decide (i < nL)
  | .iconst _ => zchk cc e 1
  | .lconst _ => zchk cc e 1
  | .bipush _ => zchk cc e 2
  | .sipush _ => zchk cc e 3
  | .ldc i => zchk cc e 2 && (if ax e 0 = 0 then zwd (ax e 2) (.constant own i (Int32.ofNat (ax e 1))) else decide (own = "SilkRise$Tokens" ∧ (ax e 1 = 0 ∧ i = 39 ∨ ax e 1 = 1 ∧ i = 88)))
  | .ldc_w i => zchk cc e 3 && zwd (ax e 2) (.constant own i (Int32.ofNat (ax e 1)))
  | .ldc2_w i => zchk cc e 3 && zwd (ax e 2) (.constantLong own i (Int64.ofNat (ax e 1)))
  | .dup | .dup2 | .pop | .iadd | .isub | .imul | .iand | .ior | .ixor | .ishl | .ishr | .iushr | .ineg | .idiv | .irem | .i2b | .i2c | .i2l | .l2i | .ladd | .lmul | .lcmp => zchk cc e 1
  | .goto o => zchk cc e 3 && zjmp e o
  | .ifCond _ o => zchk cc e 3 && zjmp e o
  | .if_icmp _ o => zchk cc e 3 && zjmp e o
  | .tableswitch d lo hi offs => decide (decode cc e.1 = .ok (e.2.1, e.2.2.1 - e.1)) && zjmp e d && decide (offs.toList.map (fun o => (e.1 : Int) + o) = (e.2.2.2.1.drop 1).map (fun t => ((t : Nat) : Int))) && decide (hi - lo + 1 = (offs.size : Int)) && decide (-1000 ≤ lo) && decide (hi ≤ 1000)
  | .getfield i => zchk cc e 3 && (if ax e 0 = 30 then (if ax e 1 = 0 then zwd (ax e 3) (.fieldLink own i "java/lang/String" "value" "[B") else zwd (ax e 3) (.fieldLink own i "java/lang/String" "coder" "B")) else zfld own i e && decide (ax e 2 ≤ 2))
  | .putfield i => zchk cc e 3 && zfld own i e && zfin own ini e && decide (zTy (ax e 0) (ax e 1) = .boolean → ax e 2 = 3)
  | .getstatic i => zchk cc e 3 && (if ax e 0 = 0 then zwd (ax e 1) (.fieldLink own i "java/lang/String" "COMPACT_STRINGS" "Z") else zwd (ax e 1) (.fieldLink own i "jdk/internal/util/Preconditions" "SIOOBE_FORMATTER" "Ljava/util/function/BiFunction;"))
  | .iaload | .laload | .iastore | .lastore | .aastore | .bastore => zchk cc e 1
  | .baload => zchk cc e 1 && decide (ax e 0 = 21 ∨ ax e 0 = 22 ∨ ax e 0 = 31)
  | .aaload => zchk cc e 1 && decide (ax e 0 = 24 ∨ ax e 0 = 25)
  | .arraylength => zchk cc e 1 && decide (20 ≤ ax e 0 ∧ ax e 0 ≤ 25 ∨ ax e 0 = 31 ∨ ax e 0 = 40)
  | .new i => zchk cc e 3 && (match zCl[ax e 0]? with
    | none => false
    | some q => decide (ax e 1 = q.2.2) && zwd (ax e 2) (.classLink own i q.1) && zwd (ax e 3) (.instantiable q.1 q.2.2) && zwd (ax e 4) (.initialized q.1))
  | .newarray t => zchk cc e 2 && zwd (ax e 1) (.arrayClass (newarray.typeOf t)) && decide (zat t = ax e 0) && decide (ax e 0 < 30)
  | .anewarray i => zchk cc e 3 && zwd (ax e 1) (.classLink own i "SilkRise$State") && zwd (ax e 2) (.arrayOver (.object "SilkRise$State"))
  | .multianewarray i d => zchk cc e 4 && decide (d = 2) && zwd (ax e 1) (.classLink own i "[[I") && zwd (ax e 2) (.arrayOver (.array .int)) && zwd (ax e 3) (.arrayClass .int)
  | .invokestatic i => zchk cc e 3 && (if ax e 0 = 9999 then zwd (ax e 1) (.methodLink own i arraycopyName) && zwd (ax e 2) (.native arraycopyName) && zwd (ax e 3) (.static arraycopyName) && zwd (ax e 4) (.initialized "java/lang/System")
      else zpar (ax e 0) (ax e 1) && zwd (ax e 5) (.static (zinf (ax e 0)).1) && zwd (ax e 6) (.initialized (zinf (ax e 0)).1.cls) && (if ax e 3 = 0 then zwd (ax e 4) (.methodLink own i (zinf (ax e 0)).1) else zwd (ax e 4) (.methodLinkNest own i (zinf (ax e 0)).1 "SilkRise")))
  | .invokevirtual i => zchk cc e 3 && zpar (ax e 0) (ax e 1) && zwd (ax e 4) (.methodLink own i (zinf (ax e 0)).1) && zwd (ax e 5) (.instanceMethod (zinf (ax e 0)).1) && zwd (ax e 6) (.selects (zinf (ax e 0)).1.cls (zinf (ax e 0)).1 (zinf (ax e 0)).1) && zwd (ax e 7) (.initialized (zinf (ax e 0)).1.cls) &&
      (if ax e 3 = 30 then decide ((zinf (ax e 0)).1.cls = "java/lang/String") else match zCl[ax e 3]? with
        | none => false
        | some q => decide ((zinf (ax e 0)).1.cls = q.1))
  | .invokespecial i => zchk cc e 3 && (if ax e 0 = 9998 then zwd (ax e 1) (.methodLink own i Lib.objectInit) && zwd (ax e 2) (.instanceMethod Lib.objectInit) && zwd (ax e 3) (.code Lib.objectInit ⟨#[0xb1]⟩ 1 none)
      else zpar (ax e 0) (ax e 1) && zwd (ax e 3) (.methodLink own i (zinf (ax e 0)).1) && zwd (ax e 4) (.instanceMethod (zinf (ax e 0)).1) && zwd (ax e 5) (.initialized (zinf (ax e 0)).1.cls) && decide ((zinf (ax e 0)).1.name = "<init>") && decide ((zinf (ax e 0)).2.2.2 = none))
  | .ireturn => zchk cc e 1 && (if ax e 0 = 0 then decide (rt = some .int) else if ax e 0 = 1 then decide (rt = some .boolean) else if ax e 0 = 2 then decide (rt = some .char) else decide (rt = some .byte))
  | .lreturn => zchk cc e 1 && decide (rt = some .long)
  | .return_ => zchk cc e 1 && decide (rt = none)
  | _ => true
/-- a method's own row: its code is in the tables, its name is plain -/
def zMok (z : Nat) : Bool := decide (z < 278) && decide ((zinf z).1.cls ≠ "java/lang/invoke/MethodHandle") && decide ((zinf z).1.cls ≠ "java/lang/invoke/VarHandle") && decide ((zinf z).2.2.1 ≤ 40) && plainFor (zinf z).1
def zCok (z : Nat) : Bool := (zcod z).2.all (fun e => zOk (zinf z).1.cls (zinf z).2.1 (zinf z).2.2.1 (zinf z).2.2.2 (decide ((zinf z).1.name = "<init>")) e)
