section
/-! A PURE MACHINE: bytecode over a memory of numbers. References are numbers from 7 on in the order of making (0: null; 1: the script; 2, 3: two String constants, 4, 5: their bytes). -/
abbrev zM : Type := (Nat × Nat × (Nat → Nat) × (Nat → Nat) × (Nat → Nat → Nat)) × (Nat → Nat → Int32) × (Nat → Nat → Int64)
abbrev zLs : Type := List (Nat × Value)
abbrev zR : Type := Option Value × zM
abbrev zE : Type := Nat × Instr × Nat × List Nat × Option (List Nat)
abbrev zC : Type := Nat → List Value → zM → Option zR
abbrev zK : Type := Nat → zLs → List Value → zM → Option zR
/-- what kind a reference is: a class's number; 20 int[], 21 byte[], 22 boolean[], 23 long[], 24 State[], 25 int[][] -/
def gK (M : zM) (r : Nat) : Nat := if r < 7 then (if r = 2 then 30 else if r = 3 then 30 else if r = 4 then 31 else if r = 5 then 31 else 99) else if r < M.1.1 + 7 then M.1.2.2.1 r else 99
def gN (M : zM) (r : Nat) : Nat := M.1.2.2.2.1 r
def gR (M : zM) (r j : Nat) : Nat := M.1.2.2.2.2 r j
def gI (M : zM) (r j : Nat) : Int32 := M.2.1 r j
def gL (M : zM) (r j : Nat) : Int64 := M.2.2 r j
def sI (M : zM) (r j : Nat) (x : Int32) : zM := (M.1, (fun a b => if a = r ∧ b = j then x else M.2.1 a b), M.2.2)
def sL (M : zM) (r j : Nat) (x : Int64) : zM := (M.1, M.2.1, (fun a b => if a = r ∧ b = j then x else M.2.2 a b))
def sR (M : zM) (r j : Nat) (x : Nat) : zM := ((M.1.1, M.1.2.1, M.1.2.2.1, M.1.2.2.2.1, (fun a b => if a = r ∧ b = j then x else M.1.2.2.2.2 a b)), M.2.1, M.2.2)
/-- f on from the places of dp is g's of sp, n of them -/
def cI (M : zM) (src sp dst dp n : Nat) : zM := (M.1, (fun a b => if a = dst ∧ dp ≤ b ∧ b < dp + n then M.2.1 src (sp + (b - dp)) else M.2.1 a b), M.2.2)
/-- one cell more, of kind kd, of len places, w of them counted -/
def alc (M : zM) (kd len : Nat) : zM := ((M.1.1 + 1, M.1.2.1 + len, (fun a => if a = M.1.1 + 7 then kd else M.1.2.2.1 a), (fun a => if a = M.1.1 + 7 then len else M.1.2.2.2.1 a), (fun a b => if a = M.1.1 + 7 then 0 else M.1.2.2.2.2 a b)), (fun a b => if a = M.1.1 + 7 then 0 else M.2.1 a b), (fun a b => if a = M.1.1 + 7 then 0 else M.2.2 a b))
/-- an array of n int arrays of k places -/
def alg (M : zM) (n k : Nat) : zM := ((M.1.1 + 1 + n, M.1.2.1 + n + n * k, (fun a => if a = M.1.1 + 7 then 25 else if M.1.1 + 7 ≤ a then 20 else M.1.2.2.1 a), (fun a => if a = M.1.1 + 7 then n else if M.1.1 + 7 ≤ a then k else M.1.2.2.2.1 a), (fun a b => if a = M.1.1 + 7 then (if b < n then M.1.1 + 8 + b else 0) else if M.1.1 + 7 ≤ a then 0 else M.1.2.2.2.2 a b)), (fun a b => if M.1.1 + 7 ≤ a then 0 else M.2.1 a b), (fun a b => if M.1.1 + 7 ≤ a then 0 else M.2.2 a b))
def zl : zLs → Nat → Option Value
  | [], _ => none
  | q :: r, i => match Nat.beq q.1 i with
    | true => some q.2
    | false => zl r i
def zmk (o : Option (List Nat)) (ls : zLs) : zLs := match o with
  | none => ls
  | some ps => ps.filterMap (fun i => (zl ls i).map (fun v => (i, v)))
/-- a place is stored to: as the kit's rows say it -/
def zs1 (ls : zLs) (i : Nat) (v : Value) : zLs := (i, v) :: ls.filter (fun q => !(q.1 == i) && !(q.1 + 1 == i && q.2.category == 2))
def zs2 (ls : zLs) (i : Nat) (v : Value) : zLs := (i, v) :: ls.filter (fun q => !(q.1 == i) && (!(q.1 == i + 1) && !(q.1 + 1 == i && q.2.category == 2)))
def lI (ls : zLs) (i : Nat) (f : Int32 → Option zR) : Option zR := match zl ls i with
  | some (.int x) => f x
  | _ => none
def lL (ls : zLs) (i : Nat) (f : Int64 → Option zR) : Option zR := match zl ls i with
  | some (.long x) => f x
  | _ => none
def lA (ls : zLs) (i : Nat) (f : Nat → Option zR) : Option zR := match zl ls i with
  | some (.ref x) => f x
  | _ => none
def pI (st : List Value) (f : Int32 → List Value → Option zR) : Option zR := match st with
  | .int x :: r => f x r
  | _ => none
def pL (st : List Value) (f : Int64 → List Value → Option zR) : Option zR := match st with
  | .long x :: r => f x r
  | _ => none
def pA (st : List Value) (f : Nat → List Value → Option zR) : Option zR := match st with
  | .ref x :: r => f x r
  | _ => none
/-- a value of one word -/
def p1 (st : List Value) (f : Value → List Value → Option zR) : Option zR := match st with
  | .int x :: r => f (.int x) r
  | .ref x :: r => f (.ref x) r
  | _ => none
def bV (o : Option zR) (f : zM → Option zR) : Option zR := match o with
  | some (none, M) => f M
  | _ => none
def bI (o : Option zR) (f : Int32 → zM → Option zR) : Option zR := match o with
  | some (some (.int x), M) => f x M
  | _ => none
def bL (o : Option zR) (f : Int64 → zM → Option zR) : Option zR := match o with
  | some (some (.long x), M) => f x M
  | _ => none
abbrev zin (i : Int32) (n : Nat) : Prop := 0 ≤ i.toInt ∧ i.toInt < (n : Int)
def zix (i : Int32) : Nat := i.toInt.toNat
def zsum (st : List Value) : Nat := (st.map fun v => v.category).sum
/-- nargs values off the stack, the rest has room -/
def pop (n : Nat) (st : List Value) (f : List Value → List Value → Option zR) : Option zR :=
  if n ≤ st.length ∧ zsum (st.drop n) ≤ 8 then f (st.take n).reverse (st.drop n) else none
def zsw (x : Int32) (f : Nat → Option zR) (d : Nat) : Int → List Nat → Option zR
  | _, [] => f d
  | lo, t :: ts => if x = Int32.ofInt lo then f t else zsw x f d (lo + 1) ts
def cBack (ret : Nat) (o : Option zR) (f : List Value → zM → Option zR) : Option zR :=
  if ret = 0 then bV o fun M => f [] M else if ret = 1 then bI o fun x M => f [.int x] M else bL o fun x M => f [.long x] M
def pN (st : List Value) (o : Option zR) : Option zR := match st with
  | [] => o
  | _ => none
def pS (sc : Option (Nat × (Nat → Int32))) (f : Nat → (Nat → Int32) → Option zR) : Option zR := match sc with
  | some s => f s.1 s.2
  | none => none
abbrev ax (e : zE) (i : Nat) : Nat := e.2.2.2.1.getD i 0
/-- the bytes of the two String constants -/
def zby (r : Nat) : List Int32 := if r = 4 then [108, 111, 97, 100, 32, 115, 105, 108, 107, 32, 104, 111, 111, 107, 32, 108, 105, 102, 116, 32, 119, 105, 110, 100, 32, 116, 105, 101, 115, 32, 112, 97, 121, 115, 32, 114, 105, 109, 32, 103, 117, 115, 116, 115, 32, 115, 101, 101, 100, 32, 105, 102, 32, 116, 104, 101, 110, 32, 101, 108, 115, 101, 32, 104, 111, 117, 114, 32, 100, 97, 121, 32, 115, 105, 122, 101, 32, 119, 101, 105, 103, 104, 116, 32, 104, 105, 103, 104, 32, 97, 99, 114, 111, 115, 115, 32, 112, 114, 105, 99, 101, 32, 117, 112, 32, 115, 116, 111, 114, 101, 100, 32] else [59, 61, 43, 45, 42, 47, 60, 40, 41]
/-- one instruction -/
def stp (sc : Option (Nat × (Nat → Int32))) (cal : zC) (e : zE) (ls : zLs) (st : List Value) (M : zM) (k : zK) : Option zR :=
  match e.2.1 with
  | .iload_n i => lI ls i fun x => k e.2.2.1 ls (.int x :: st) M
  | .iload i => lI ls i fun x => k e.2.2.1 ls (.int x :: st) M
  | .lload_n i => lL ls i fun x => k e.2.2.1 ls (.long x :: st) M
  | .lload i => lL ls i fun x => k e.2.2.1 ls (.long x :: st) M
  | .aload_n i => lA ls i fun x => k e.2.2.1 ls (.ref x :: st) M
  | .aload i => lA ls i fun x => k e.2.2.1 ls (.ref x :: st) M
  | .istore_n i => pI st fun x st => k e.2.2.1 (zs1 ls i (.int x)) st M
  | .istore i => pI st fun x st => k e.2.2.1 (zs1 ls i (.int x)) st M
  | .astore_n i => pA st fun x st => k e.2.2.1 (zs1 ls i (.ref x)) st M
  | .astore i => pA st fun x st => k e.2.2.1 (zs1 ls i (.ref x)) st M
  | .lstore_n i => pL st fun x st => k e.2.2.1 (zs2 ls i (.long x)) st M
  | .lstore i => pL st fun x st => k e.2.2.1 (zs2 ls i (.long x)) st M
  | .iinc i n => lI ls i fun x => k e.2.2.1 (zs1 ls i (.int (x + Int32.ofInt n))) st M
  | .iconst n => k e.2.2.1 ls (.int (Int32.ofInt n) :: st) M
  | .bipush n => k e.2.2.1 ls (.int (Int8.ofInt n).toInt32 :: st) M
  | .sipush n => k e.2.2.1 ls (.int (Int16.ofInt n).toInt32 :: st) M
  | .lconst n => k e.2.2.1 ls (.long (Int64.ofNat n) :: st) M
  | .ldc _ => if ax e 0 = 0 then k e.2.2.1 ls (.int (Int32.ofNat (ax e 1)) :: st) M else k e.2.2.1 ls (.ref (ax e 1 + 2) :: st) M
  | .ldc_w _ => k e.2.2.1 ls (.int (Int32.ofNat (ax e 1)) :: st) M
  | .ldc2_w _ => k e.2.2.1 ls (.long (Int64.ofNat (ax e 1)) :: st) M
  | .dup => p1 st fun v st => k e.2.2.1 ls (v :: v :: st) M
  | .dup2 => p1 st fun v st => p1 st fun w st => k e.2.2.1 ls (v :: w :: v :: w :: st) M
  | .pop => p1 st fun _ st => k e.2.2.1 ls st M
  | .iadd => pI st fun y st => pI st fun x st => k e.2.2.1 ls (.int (x + y) :: st) M
  | .isub => pI st fun y st => pI st fun x st => k e.2.2.1 ls (.int (x - y) :: st) M
  | .imul => pI st fun y st => pI st fun x st => k e.2.2.1 ls (.int (x * y) :: st) M
  | .iand => pI st fun y st => pI st fun x st => k e.2.2.1 ls (.int (x &&& y) :: st) M
  | .ior => pI st fun y st => pI st fun x st => k e.2.2.1 ls (.int (x ||| y) :: st) M
  | .ixor => pI st fun y st => pI st fun x st => k e.2.2.1 ls (.int (x ^^^ y) :: st) M
  | .ishl => pI st fun y st => pI st fun x st => k e.2.2.1 ls (.int (x <<< (y &&& 31)) :: st) M
  | .ishr => pI st fun y st => pI st fun x st => k e.2.2.1 ls (.int (x >>> (y &&& 31)) :: st) M
  | .iushr => pI st fun y st => pI st fun x st => k e.2.2.1 ls (.int (x.toUInt32 >>> (y.toUInt32 &&& 31)).toInt32 :: st) M
  | .ineg => pI st fun x st => k e.2.2.1 ls (.int (-x) :: st) M
  | .idiv => pI st fun y st => pI st fun x st => if y = 0 then none else k e.2.2.1 ls (.int (x / y) :: st) M
  | .irem => pI st fun y st => pI st fun x st => if y = 0 then none else k e.2.2.1 ls (.int (x - x / y * y) :: st) M
  | .i2b => pI st fun x st => k e.2.2.1 ls (.int x.toInt8.toInt32 :: st) M
  | .i2c => pI st fun x st => k e.2.2.1 ls (.int (x.toUInt32 % 65536).toInt32 :: st) M
  | .i2l => pI st fun x st => k e.2.2.1 ls (.long x.toInt64 :: st) M
  | .l2i => pL st fun x st => k e.2.2.1 ls (.int x.toInt32 :: st) M
  | .ladd => pL st fun y st => pL st fun x st => k e.2.2.1 ls (.long (x + y) :: st) M
  | .lmul => pL st fun y st => pL st fun x st => k e.2.2.1 ls (.long (x * y) :: st) M
  | .lcmp => pL st fun y st => pL st fun x st => k e.2.2.1 ls (.int (lg_cmp x y) :: st) M
  | .goto _ => k (ax e 0) ls st M
  | .ifCond .eq _ => pI st fun x st => if x = 0 then k (ax e 0) ls st M else k e.2.2.1 ls st M
  | .ifCond .ne _ => pI st fun x st => if ¬ x = 0 then k (ax e 0) ls st M else k e.2.2.1 ls st M
  | .ifCond .lt _ => pI st fun x st => if x < 0 then k (ax e 0) ls st M else k e.2.2.1 ls st M
  | .ifCond .ge _ => pI st fun x st => if 0 ≤ x then k (ax e 0) ls st M else k e.2.2.1 ls st M
  | .ifCond .gt _ => pI st fun x st => if 0 < x then k (ax e 0) ls st M else k e.2.2.1 ls st M
  | .ifCond .le _ => pI st fun x st => if x ≤ 0 then k (ax e 0) ls st M else k e.2.2.1 ls st M
  | .if_icmp .eq _ => pI st fun y st => pI st fun x st => if x = y then k (ax e 0) ls st M else k e.2.2.1 ls st M
  | .if_icmp .ne _ => pI st fun y st => pI st fun x st => if ¬ x = y then k (ax e 0) ls st M else k e.2.2.1 ls st M
  | .if_icmp .lt _ => pI st fun y st => pI st fun x st => if x < y then k (ax e 0) ls st M else k e.2.2.1 ls st M
  | .if_icmp .ge _ => pI st fun y st => pI st fun x st => if y ≤ x then k (ax e 0) ls st M else k e.2.2.1 ls st M
  | .if_icmp .gt _ => pI st fun y st => pI st fun x st => if y < x then k (ax e 0) ls st M else k e.2.2.1 ls st M
  | .if_icmp .le _ => pI st fun y st => pI st fun x st => if x ≤ y then k (ax e 0) ls st M else k e.2.2.1 ls st M
  | .tableswitch _ lo _ _ => pI st fun x st => zsw x (fun t => k t ls st M) (ax e 0) lo (e.2.2.2.1.drop 1)
  | .getfield _ => if ax e 0 = 30 then (if ax e 1 = 0 then pA st fun r st => if gK M r = 30 then k e.2.2.1 ls (.ref (r + 2) :: st) M else none
      else pA st fun r st => if gK M r = 30 then k e.2.2.1 ls (.int 0 :: st) M else none)
    else if ax e 2 = 0 then pA st fun r st => if gK M r = ax e 0 then k e.2.2.1 ls (.int (gI M r (ax e 1)) :: st) M else none
    else if ax e 2 = 1 then pA st fun r st => if gK M r = ax e 0 then k e.2.2.1 ls (.long (gL M r (ax e 1)) :: st) M else none
    else pA st fun r st => if gK M r = ax e 0 then k e.2.2.1 ls (.ref (gR M r (ax e 1)) :: st) M else none
  | .putfield _ => if ax e 2 = 0 then pI st fun x st => pA st fun r st => if gK M r = ax e 0 then k e.2.2.1 ls st (sI M r (ax e 1) x) else none
    else if ax e 2 = 1 then pL st fun x st => pA st fun r st => if gK M r = ax e 0 then k e.2.2.1 ls st (sL M r (ax e 1) x) else none
    else pA st fun x st => pA st fun r st => if gK M r = ax e 0 then k e.2.2.1 ls st (sR M r (ax e 1) x) else none
  | .getstatic _ => if ax e 0 = 0 then k e.2.2.1 ls (.int 1 :: st) M else k e.2.2.1 ls (.retAddr 0 :: st) M
  | .iaload => if ax e 0 = 40 then pS sc fun L xs => pI st fun i st => pA st fun r st => if r = 1 ∧ zin i L then k e.2.2.1 ls (.int (xs (zix i)) :: st) M else none
    else pI st fun i st => pA st fun r st => if gK M r = 20 ∧ zin i (gN M r) then k e.2.2.1 ls (.int (gI M r (zix i)) :: st) M else none
  | .laload => pI st fun i st => pA st fun r st => if gK M r = 23 ∧ zin i (gN M r) then k e.2.2.1 ls (.long (gL M r (zix i)) :: st) M else none
  | .baload => if ax e 0 = 31 then pI st fun i st => pA st fun r st => if gK M r = 31 ∧ zin i (zby r).length then k e.2.2.1 ls (.int ((zby r).getD (zix i) 0) :: st) M else none
    else pI st fun i st => pA st fun r st => if gK M r = ax e 0 ∧ zin i (gN M r) then k e.2.2.1 ls (.int (gI M r (zix i)) :: st) M else none
  | .aaload => pI st fun i st => pA st fun r st => if gK M r = ax e 0 ∧ zin i (gN M r) then k e.2.2.1 ls (.ref (gR M r (zix i)) :: st) M else none
  | .iastore => pI st fun x st => pI st fun i st => pA st fun r st => if gK M r = 20 ∧ zin i (gN M r) then k e.2.2.1 ls st (sI M r (zix i) x) else none
  | .lastore => pL st fun x st => pI st fun i st => pA st fun r st => if gK M r = 23 ∧ zin i (gN M r) then k e.2.2.1 ls st (sL M r (zix i) x) else none
  | .bastore => if ax e 0 = 21 then pI st fun x st => pI st fun i st => pA st fun r st => if gK M r = 21 ∧ zin i (gN M r) then k e.2.2.1 ls st (sI M r (zix i) x.toInt8.toInt32) else none
    else pI st fun x st => pI st fun i st => pA st fun r st => if gK M r = 22 ∧ zin i (gN M r) then k e.2.2.1 ls st (sI M r (zix i) (x &&& 1)) else none
  | .aastore => pA st fun x st => pI st fun i st => pA st fun r st => if gK M r = 24 ∧ zin i (gN M r) ∧ gK M x = 8 then k e.2.2.1 ls st (sR M r (zix i) x) else none
  | .arraylength => if ax e 0 = 40 then pS sc fun L _ => pA st fun r st => if r = 1 then k e.2.2.1 ls (.int (Int32.ofNat L) :: st) M else none
    else if ax e 0 = 31 then pA st fun r st => if gK M r = 31 then k e.2.2.1 ls (.int (Int32.ofNat (zby r).length) :: st) M else none
    else pA st fun r st => if gK M r = ax e 0 then k e.2.2.1 ls (.int (Int32.ofNat (gN M r)) :: st) M else none
  | .new _ => k e.2.2.1 ls (.ref (M.1.1 + 7) :: st) (alc M (ax e 0) (ax e 1))
  | .newarray _ => pI st fun n st => if 0 ≤ n.toInt ∧ n.toInt < 100000 then k e.2.2.1 ls (.ref (M.1.1 + 7) :: st) (alc M (ax e 0) n.toInt.toNat) else none
  | .anewarray _ => pI st fun n st => if 0 ≤ n.toInt ∧ n.toInt < 100000 then k e.2.2.1 ls (.ref (M.1.1 + 7) :: st) (alc M 24 n.toInt.toNat) else none
  | .multianewarray _ _ => pI st fun m st => pI st fun n st => if (0 ≤ n.toInt ∧ n.toInt < 1000) ∧ 0 ≤ m.toInt ∧ m.toInt < 1000 then k e.2.2.1 ls (.ref (M.1.1 + 7) :: st) (alg M n.toInt.toNat m.toInt.toNat) else none
  | .invokestatic _ => if ax e 0 = 9999 then pI st fun n st => pI st fun dp st => pA st fun d st => pI st fun sp st => pA st fun s st =>
        if gK M s = 20 ∧ gK M d = 20 ∧ 0 ≤ sp.toInt ∧ 0 ≤ dp.toInt ∧ 0 ≤ n.toInt ∧ sp.toInt + n.toInt ≤ gN M s ∧ dp.toInt + n.toInt ≤ gN M d then pN st (k e.2.2.1 ls [] (cI M s (zix sp) d (zix dp) (zix n))) else none
    else pop (ax e 1) st fun as st => cBack (ax e 2) (cal (ax e 0) as M) fun v M1 => k e.2.2.1 ls (v ++ st) M1
  | .invokevirtual _ => pop (ax e 1) st fun as st => pA st fun r st => if gK M r = ax e 3 then cBack (ax e 2) (cal (ax e 0) (.ref r :: as) M) fun v M1 => k e.2.2.1 ls (v ++ st) M1 else none
  | .invokespecial _ => if ax e 0 = 9998 then pA st fun _ st => pN st (k e.2.2.1 ls [] M)
    else pop (ax e 1) st fun as st => pA st fun r st => cBack 0 (cal (ax e 0) (.ref r :: as) M) fun v M1 => k e.2.2.1 ls (v ++ st) M1
  | .ireturn => pI st fun x st => pN st (if ax e 0 = 0 then some (some (.int x), M)
      else if ax e 0 = 1 then (if x = 0 ∨ x = 1 then some (some (.int x), M) else none)
      else if ax e 0 = 2 then (if 0 ≤ x.toInt ∧ x.toInt < 65536 then some (some (.int x), M) else none)
      else if -128 ≤ x.toInt ∧ x.toInt < 128 then some (some (.int x), M) else none)
  | .lreturn => pL st fun x st => pN st (some (some (.long x), M))
  | .return_ => pN st (some (none, M))
  | _ => none
def zent : List zE → Nat → Option zE
  | [], _ => none
  | e :: r, pc => match Nat.beq e.1 pc with
    | true => some e
    | false => zent r pc
def zms (cd : List zE) (pc : Nat) (ls : zLs) : zLs := match zent cd pc with
  | some e => zmk e.2.2.2.2 ls
  | none => ls
def exe (sc : Option (Nat × (Nat → Int32))) (cal : zC) (cd : List zE) : Nat → zK
  | 0 => fun _ _ _ _ => none
  | n + 1 => fun pc ls st M => match zent cd pc with
    | none => none
    | some e => stp sc cal e ls st M (fun pc' ls' st' M' => exe sc cal cd n pc' (zms cd pc' ls') st' M')
/-- method y by its code, d calls deep at most, each of n instructions at most -/
def mth (cod : Nat → List zE) (n : Nat) : Nat → zC
  | 0 => fun _ _ _ => none
  | d + 1 => fun y as M => exe none (mth cod n d) (cod y) n 0 (lv_args 0 as) [] M
end
section
/-! the limit over the fuel: 'ev' has an equation an instruction -/
def cLe (c c' : zC) : Prop := ∀ z as M r, c z as M = some r → c' z as M = some r
def kLe (k k' : zK) : Prop := ∀ pc ls st M r, k pc ls st M = some r → k' pc ls st M = some r
noncomputable def lim (f : Nat → Option zR) : Option zR := @dite _ (∃ r, ∃ n, f n = some r) (Classical.propDecidable _) (fun h => some (Classical.choose h)) (fun _ => none)
theorem ch_le {f : Nat → Option zR} (hf : ∀ n r, f n = some r → f (n + 1) = some r) {r : zR} : ∀ {n m : Nat}, n ≤ m → f n = some r → f m = some r := by
  intro n m h e
  induction h with
  | refl => exact e
  | step _ ih => exact hf _ _ ih
theorem lim_of {f : Nat → Option zR} (hf : ∀ n r, f n = some r → f (n + 1) = some r) {r : zR} {n : Nat} (h : f n = some r) : lim f = some r := by
  have hx : ∃ r, ∃ n, f n = some r := ⟨r, n, h⟩
  have e : lim f = some (Classical.choose hx) := by unfold lim; exact dif_pos hx
  rw [e]
  obtain ⟨m, hm⟩ := Classical.choose_spec hx
  have h1 := ch_le hf (Nat.le_max_left n m) h
  have h2 := ch_le hf (Nat.le_max_right n m) hm
  exact h2.symm.trans h1
theorem lim_ex {f : Nat → Option zR} {r : zR} (h : lim f = some r) : ∃ n, f n = some r := by
  unfold lim at h
  split at h
  · rename_i hx
    cases h
    exact Classical.choose_spec hx
  · cases h
noncomputable def limC (c : Nat → zC) : zC := fun z as M => lim (fun n => c n z as M)
noncomputable def limK (k : Nat → zK) : zK := fun pc ls st M => lim (fun n => k n pc ls st M)
def Ct (F : zC → zK → Option zR) : Prop :=
  (∀ c c' k k' r, cLe c c' → kLe k k' → F c k = some r → F c' k' = some r) ∧
  (∀ (c : Nat → zC) (k : Nat → zK), (∀ n, cLe (c n) (c (n + 1))) → (∀ n, kLe (k n) (k (n + 1))) → ∀ r, F (limC c) (limK k) = some r → ∃ n, F (c n) (k n) = some r)
theorem Ct_k (pc : Nat) (ls : zLs) (st : List Value) (M : zM) : Ct (fun _ k => k pc ls st M) := ⟨fun _ _ _ _ r _ hk h => hk _ _ _ _ r h, fun _ _ _ _ _ h => lim_ex h⟩
theorem Ct_call (z : Nat) (as : List Value) (M : zM) : Ct (fun c _ => c z as M) := ⟨fun _ _ _ _ r hc _ h => hc _ _ _ r h, fun _ _ _ _ _ h => lim_ex h⟩
theorem Ct_o (o : Option zR) : Ct (fun _ _ => o) := ⟨fun _ _ _ _ _ _ _ h => h, fun _ _ _ _ _ h => ⟨0, h⟩⟩
theorem Ct_ite {p : Prop} {_ : Decidable p} {F G : zC → zK → Option zR} (hF : Ct F) (hG : Ct G) : Ct (fun c k => if p then F c k else G c k) := by
  by_cases h : p
  · simp only [h, if_true]; exact hF
  · simp only [h, if_false]; exact hG
theorem Ct_lI {ls : zLs} {i : Nat} {F : Int32 → zC → zK → Option zR} (h : ∀ x, Ct (F x)) : Ct (fun c k => lI ls i (fun x => F x c k)) := by
  unfold lI
  split
  · exact h _
  · exact Ct_o _
theorem Ct_lL {ls : zLs} {i : Nat} {F : Int64 → zC → zK → Option zR} (h : ∀ x, Ct (F x)) : Ct (fun c k => lL ls i (fun x => F x c k)) := by
  unfold lL
  split
  · exact h _
  · exact Ct_o _
theorem Ct_lA {ls : zLs} {i : Nat} {F : Nat → zC → zK → Option zR} (h : ∀ x, Ct (F x)) : Ct (fun c k => lA ls i (fun x => F x c k)) := by
  unfold lA
  split
  · exact h _
  · exact Ct_o _
theorem Ct_pI {st : List Value} {F : Int32 → List Value → zC → zK → Option zR} (h : ∀ x st, Ct (F x st)) : Ct (fun c k => pI st (fun x st => F x st c k)) := by
  unfold pI
  split
  · exact h _ _
  · exact Ct_o _
theorem Ct_pL {st : List Value} {F : Int64 → List Value → zC → zK → Option zR} (h : ∀ x st, Ct (F x st)) : Ct (fun c k => pL st (fun x st => F x st c k)) := by
  unfold pL
  split
  · exact h _ _
  · exact Ct_o _
theorem Ct_pA {st : List Value} {F : Nat → List Value → zC → zK → Option zR} (h : ∀ x st, Ct (F x st)) : Ct (fun c k => pA st (fun x st => F x st c k)) := by
  unfold pA
  split
  · exact h _ _
  · exact Ct_o _
theorem Ct_p1 {st : List Value} {F : Value → List Value → zC → zK → Option zR} (h : ∀ x st, Ct (F x st)) : Ct (fun c k => p1 st (fun x st => F x st c k)) := by
  unfold p1
  split
  · exact h _ _
  · exact h _ _
  · exact Ct_o _
theorem Ct_pN {st : List Value} {F : zC → zK → Option zR} (h : Ct F) : Ct (fun c k => pN st (F c k)) := by
  unfold pN
  split
  · exact h
  · exact Ct_o _
theorem Ct_pS {sc : Option (Nat × (Nat → Int32))} {F : Nat → (Nat → Int32) → zC → zK → Option zR} (h : ∀ x st, Ct (F x st)) : Ct (fun c k => pS sc (fun x st => F x st c k)) := by
  unfold pS
  split
  · exact h _ _
  · exact Ct_o _
theorem Ct_pop {n : Nat} {st : List Value} {F : List Value → List Value → zC → zK → Option zR} (h : ∀ x st, Ct (F x st)) : Ct (fun c k => pop n st (fun x st => F x st c k)) := by
  unfold pop
  exact Ct_ite (h _ _) (Ct_o _)
theorem Ct_zsw {x : Int32} {F : Nat → zC → zK → Option zR} (h : ∀ t, Ct (F t)) (d : Nat) : ∀ (ts : List Nat) (lo : Int), Ct (fun c k => zsw x (fun t => F t c k) d lo ts)
  | [], _ => h d
  | _ :: ts, lo => Ct_ite (h _) (Ct_zsw h d ts (lo + 1))
theorem bV_some {o : Option zR} {f : (zM → Option zR)} {r : zR} (h : bV o f = some r) : ∃ M, o = some (none, M) ∧ f M = some r := by
  unfold bV at h
  split at h
  · exact ⟨_, rfl, h⟩
  · cases h
theorem Ct_bV {G : zC → zK → Option zR} {F : zM → zC → zK → Option zR} (hG : Ct G) (h : ∀ M, Ct (F M)) : Ct (fun c k => bV (G c k) (fun M => F M c k)) := by
  refine ⟨fun c c' k k' r hc hk e => ?_, fun c k hc hk r e => ?_⟩
  · obtain ⟨M, e1, e2⟩ := bV_some e
    show bV (G c' k') (fun M => F M c' k') = some r
    rw [hG.1 _ _ _ _ _ hc hk e1]
    exact (h M).1 _ _ _ _ _ hc hk e2
  · obtain ⟨M, e1, e2⟩ := bV_some e
    obtain ⟨n1, h1⟩ := hG.2 _ _ hc hk _ e1
    obtain ⟨n2, h2⟩ := (h M).2 _ _ hc hk _ e2
    have cc : ∀ {n m : Nat}, n ≤ m → cLe (c n) (c m) := fun hnm z as M r => ch_le (f := fun n => c n z as M) (fun n r => hc n z as M r) hnm
    have kk : ∀ {n m : Nat}, n ≤ m → kLe (k n) (k m) := fun hnm a1 a2 a3 a4 r => ch_le (f := fun n => k n a1 a2 a3 a4) (fun n r => hk n a1 a2 a3 a4 r) hnm
    refine ⟨max n1 n2, ?_⟩
    have g1 := hG.1 _ _ _ _ _ (cc (Nat.le_max_left n1 n2)) (kk (Nat.le_max_left n1 n2)) h1
    have g2 := (h M).1 _ _ _ _ _ (cc (Nat.le_max_right n1 n2)) (kk (Nat.le_max_right n1 n2)) h2
    show bV (G (c (max n1 n2)) (k (max n1 n2))) (fun M => F M (c (max n1 n2)) (k (max n1 n2))) = some r
    rw [g1]
    exact g2
theorem bI_some {o : Option zR} {f : (Int32 → zM → Option zR)} {r : zR} (h : bI o f = some r) : ∃ x M, o = some (some (.int x), M) ∧ f x M = some r := by
  unfold bI at h
  split at h
  · exact ⟨_, _, rfl, h⟩
  · cases h
theorem Ct_bI {G : zC → zK → Option zR} {F : Int32 → zM → zC → zK → Option zR} (hG : Ct G) (h : ∀ x M, Ct (F x M)) : Ct (fun c k => bI (G c k) (fun x M => F x M c k)) := by
  refine ⟨fun c c' k k' r hc hk e => ?_, fun c k hc hk r e => ?_⟩
  · obtain ⟨x, M, e1, e2⟩ := bI_some e
    show bI (G c' k') (fun x M => F x M c' k') = some r
    rw [hG.1 _ _ _ _ _ hc hk e1]
    exact (h x M).1 _ _ _ _ _ hc hk e2
  · obtain ⟨x, M, e1, e2⟩ := bI_some e
    obtain ⟨n1, h1⟩ := hG.2 _ _ hc hk _ e1
    obtain ⟨n2, h2⟩ := (h x M).2 _ _ hc hk _ e2
    have cc : ∀ {n m : Nat}, n ≤ m → cLe (c n) (c m) := fun hnm z as M r => ch_le (f := fun n => c n z as M) (fun n r => hc n z as M r) hnm
    have kk : ∀ {n m : Nat}, n ≤ m → kLe (k n) (k m) := fun hnm a1 a2 a3 a4 r => ch_le (f := fun n => k n a1 a2 a3 a4) (fun n r => hk n a1 a2 a3 a4 r) hnm
    refine ⟨max n1 n2, ?_⟩
    have g1 := hG.1 _ _ _ _ _ (cc (Nat.le_max_left n1 n2)) (kk (Nat.le_max_left n1 n2)) h1
    have g2 := (h x M).1 _ _ _ _ _ (cc (Nat.le_max_right n1 n2)) (kk (Nat.le_max_right n1 n2)) h2
    show bI (G (c (max n1 n2)) (k (max n1 n2))) (fun x M => F x M (c (max n1 n2)) (k (max n1 n2))) = some r
    rw [g1]
    exact g2
theorem bL_some {o : Option zR} {f : (Int64 → zM → Option zR)} {r : zR} (h : bL o f = some r) : ∃ x M, o = some (some (.long x), M) ∧ f x M = some r := by
  unfold bL at h
  split at h
  · exact ⟨_, _, rfl, h⟩
  · cases h
theorem Ct_bL {G : zC → zK → Option zR} {F : Int64 → zM → zC → zK → Option zR} (hG : Ct G) (h : ∀ x M, Ct (F x M)) : Ct (fun c k => bL (G c k) (fun x M => F x M c k)) := by
  refine ⟨fun c c' k k' r hc hk e => ?_, fun c k hc hk r e => ?_⟩
  · obtain ⟨x, M, e1, e2⟩ := bL_some e
    show bL (G c' k') (fun x M => F x M c' k') = some r
    rw [hG.1 _ _ _ _ _ hc hk e1]
    exact (h x M).1 _ _ _ _ _ hc hk e2
  · obtain ⟨x, M, e1, e2⟩ := bL_some e
    obtain ⟨n1, h1⟩ := hG.2 _ _ hc hk _ e1
    obtain ⟨n2, h2⟩ := (h x M).2 _ _ hc hk _ e2
    have cc : ∀ {n m : Nat}, n ≤ m → cLe (c n) (c m) := fun hnm z as M r => ch_le (f := fun n => c n z as M) (fun n r => hc n z as M r) hnm
    have kk : ∀ {n m : Nat}, n ≤ m → kLe (k n) (k m) := fun hnm a1 a2 a3 a4 r => ch_le (f := fun n => k n a1 a2 a3 a4) (fun n r => hk n a1 a2 a3 a4 r) hnm
    refine ⟨max n1 n2, ?_⟩
    have g1 := hG.1 _ _ _ _ _ (cc (Nat.le_max_left n1 n2)) (kk (Nat.le_max_left n1 n2)) h1
    have g2 := (h x M).1 _ _ _ _ _ (cc (Nat.le_max_right n1 n2)) (kk (Nat.le_max_right n1 n2)) h2
    show bL (G (c (max n1 n2)) (k (max n1 n2))) (fun x M => F x M (c (max n1 n2)) (k (max n1 n2))) = some r
    rw [g1]
    exact g2
theorem Ct_cB {ret : Nat} {G : zC → zK → Option zR} {F : List Value → zM → zC → zK → Option zR} (hG : Ct G) (h : ∀ v M, Ct (F v M)) : Ct (fun c k => cBack ret (G c k) (fun v M => F v M c k)) := by
  unfold cBack
  exact Ct_ite (Ct_bV hG fun M => h _ M) (Ct_ite (Ct_bI hG fun x M => h _ M) (Ct_bL hG fun x M => h _ M))
theorem stp_Ct (sc : Option (Nat × (Nat → Int32))) (e : zE) (ls : zLs) (st : List Value) (M : zM) : Ct (fun c k => stp sc c e ls st M k) := by
  obtain ⟨pc, ins, nxt, aux, ld⟩ := e
  cases ins
  case ifCond c o => cases c <;> exact Ct_pI fun _ _ => Ct_ite (Ct_k ..) (Ct_k ..)
  case if_icmp c o => cases c <;> exact Ct_pI fun _ _ => Ct_pI fun _ _ => Ct_ite (Ct_k ..) (Ct_k ..)
  all_goals first
    | exact Ct_o none
    | exact Ct_k ..
    | exact Ct_lI fun _ => Ct_k ..
    | exact Ct_lL fun _ => Ct_k ..
    | exact Ct_lA fun _ => Ct_k ..
    | exact Ct_pI fun _ _ => Ct_k ..
    | exact Ct_pL fun _ _ => Ct_k ..
    | exact Ct_pA fun _ _ => Ct_k ..
    | exact Ct_p1 fun _ _ => Ct_k ..
    | exact Ct_p1 fun _ _ => Ct_p1 fun _ _ => Ct_k ..
    | exact Ct_pI fun _ _ => Ct_pI fun _ _ => Ct_k ..
    | exact Ct_pL fun _ _ => Ct_pL fun _ _ => Ct_k ..
    | exact Ct_pI fun _ _ => Ct_pI fun _ _ => Ct_ite (Ct_o _) (Ct_k ..)
    | exact Ct_pI fun _ _ => Ct_ite (Ct_k ..) (Ct_o _)
    | exact Ct_pI fun _ _ => Ct_pI fun _ _ => Ct_ite (Ct_k ..) (Ct_o _)
    | exact Ct_pN (Ct_o _)
    | exact Ct_pI fun _ _ => Ct_pN (Ct_o _)
    | exact Ct_pL fun _ _ => Ct_pN (Ct_o _)
    | exact Ct_ite (Ct_k ..) (Ct_k ..)
    | exact Ct_pI fun _ _ => Ct_pA fun _ _ => Ct_ite (Ct_k ..) (Ct_o _)
    | exact Ct_pI fun _ _ => Ct_pI fun _ _ => Ct_pA fun _ _ => Ct_ite (Ct_k ..) (Ct_o _)
    | exact Ct_pL fun _ _ => Ct_pI fun _ _ => Ct_pA fun _ _ => Ct_ite (Ct_k ..) (Ct_o _)
    | exact Ct_pA fun _ _ => Ct_pI fun _ _ => Ct_pA fun _ _ => Ct_ite (Ct_k ..) (Ct_o _)
    | skip
  case tableswitch d lo hi os => exact Ct_pI fun _ _ => Ct_zsw (fun _ => Ct_k ..) _ _ _
  case getfield i => exact Ct_ite (Ct_ite (Ct_pA fun _ _ => Ct_ite (Ct_k ..) (Ct_o _)) (Ct_pA fun _ _ => Ct_ite (Ct_k ..) (Ct_o _))) (Ct_ite (Ct_pA fun _ _ => Ct_ite (Ct_k ..) (Ct_o _)) (Ct_ite (Ct_pA fun _ _ => Ct_ite (Ct_k ..) (Ct_o _)) (Ct_pA fun _ _ => Ct_ite (Ct_k ..) (Ct_o _))))
  case putfield i => exact Ct_ite (Ct_pI fun _ _ => Ct_pA fun _ _ => Ct_ite (Ct_k ..) (Ct_o _)) (Ct_ite (Ct_pL fun _ _ => Ct_pA fun _ _ => Ct_ite (Ct_k ..) (Ct_o _)) (Ct_pA fun _ _ => Ct_pA fun _ _ => Ct_ite (Ct_k ..) (Ct_o _)))
  case iaload => exact Ct_ite (Ct_pS fun _ _ => Ct_pI fun _ _ => Ct_pA fun _ _ => Ct_ite (Ct_k ..) (Ct_o _)) (Ct_pI fun _ _ => Ct_pA fun _ _ => Ct_ite (Ct_k ..) (Ct_o _))
  case baload => exact Ct_ite (Ct_pI fun _ _ => Ct_pA fun _ _ => Ct_ite (Ct_k ..) (Ct_o _)) (Ct_pI fun _ _ => Ct_pA fun _ _ => Ct_ite (Ct_k ..) (Ct_o _))
  case bastore => exact Ct_ite (Ct_pI fun _ _ => Ct_pI fun _ _ => Ct_pA fun _ _ => Ct_ite (Ct_k ..) (Ct_o _)) (Ct_pI fun _ _ => Ct_pI fun _ _ => Ct_pA fun _ _ => Ct_ite (Ct_k ..) (Ct_o _))
  case arraylength => exact Ct_ite (Ct_pS fun _ _ => Ct_pA fun _ _ => Ct_ite (Ct_k ..) (Ct_o _)) (Ct_ite (Ct_pA fun _ _ => Ct_ite (Ct_k ..) (Ct_o _)) (Ct_pA fun _ _ => Ct_ite (Ct_k ..) (Ct_o _)))
  case invokestatic i => exact Ct_ite (Ct_pI fun _ _ => Ct_pI fun _ _ => Ct_pA fun _ _ => Ct_pI fun _ _ => Ct_pA fun _ _ => Ct_ite (Ct_pN (Ct_k ..)) (Ct_o _)) (Ct_pop fun _ _ => Ct_cB (Ct_call ..) fun _ _ => Ct_k ..)
  case invokevirtual i =>
    show Ct (fun c k => pop (aux.getD 1 0) st fun as st => pA st fun r st => if gK M r = aux.getD 3 0 then cBack (aux.getD 2 0) (c (aux.getD 0 0) (.ref r :: as) M) fun v M1 => k nxt ls (v ++ st) M1 else none)
    refine Ct_pop fun as st => Ct_pA fun r st => ?_
    refine Ct_ite ?_ (Ct_o _)
    exact Ct_cB (Ct_call ..) fun _ _ => Ct_k ..
  case dup => 
    show Ct (fun c k => p1 st fun v st => k nxt ls (v :: v :: st) M)
    refine Ct_p1 fun v st => ?_
    exact Ct_k ..
  case dup2 =>
    show Ct (fun c k => p1 st fun v st => p1 st fun w st => k nxt ls (v :: w :: v :: w :: st) M)
    refine Ct_p1 fun v st => Ct_p1 fun w st => ?_
    exact Ct_k ..
  case pop =>
    show Ct (fun c k => p1 st fun _ st => k nxt ls st M)
    refine Ct_p1 fun v st => ?_
    exact Ct_k ..
  case invokespecial i => exact Ct_ite (Ct_pA fun _ _ => Ct_pN (Ct_k ..)) (Ct_pop fun _ _ => Ct_pA fun _ _ => Ct_cB (Ct_call ..) fun _ _ => Ct_k ..)
/-- more fuel does no harm -/
theorem exe_c {sc : Option (Nat × (Nat → Int32))} {c c' : zC} (hc : cLe c c') (cd : List zE) : ∀ n, kLe (exe sc c cd n) (exe sc c' cd n)
  | 0 => fun _ _ _ _ _ h => by cases h
  | n + 1 => fun pc ls st M r h => by
    unfold exe at h ⊢
    split at h
    · cases h
    · rename_i e he
      exact (stp_Ct sc e ls st M).1 _ _ _ _ r hc (fun a1 a2 a3 a4 r => exe_c hc cd n a1 _ a3 a4 r) h
theorem exe_f {sc : Option (Nat × (Nat → Int32))} {c : zC} (cd : List zE) : ∀ n, kLe (exe sc c cd n) (exe sc c cd (n + 1))
  | 0 => fun _ _ _ _ _ h => by cases h
  | n + 1 => fun pc ls st M r h => by
    unfold exe at h ⊢
    split at h
    · cases h
    · rename_i e he
      exact (stp_Ct sc e ls st M).1 _ _ _ _ r (fun _ _ _ _ h => h) (fun a1 a2 a3 a4 r => exe_f cd n a1 _ a3 a4 r) h
theorem exe_up {sc : Option (Nat × (Nat → Int32))} {c c' : zC} (hc : cLe c c') (cd : List zE) (n : Nat) : kLe (exe sc c cd n) (exe sc c' cd (n + 1)) := fun a1 a2 a3 a4 r h => exe_f cd n _ _ _ _ _ (exe_c hc cd n a1 a2 a3 a4 r h)
theorem mth_up (cod : Nat → List zE) (n : Nat) : ∀ d, cLe (mth cod n d) (mth cod (n + 1) d)
  | 0 => fun _ _ _ _ h => by cases h
  | d + 1 => fun z as M r h => exe_up (mth_up cod n d) (cod z) n 0 _ [] M r h
noncomputable def evM (cod : Nat → List zE) (d : Nat) : zC := limC (fun n => mth cod n d)
noncomputable def evk (cod : Nat → List zE) (sc : Option (Nat × (Nat → Int32))) (d : Nat) (cd : List zE) : zK := limK (fun n => exe sc (mth cod n d) cd n)
theorem evk_ex {cod : Nat → List zE} {sc : Option (Nat × (Nat → Int32))} {d : Nat} {cd : List zE} {pc : Nat} {ls : zLs} {st : List Value} {M : zM} {r : zR} (h : evk cod sc d cd pc ls st M = some r) : ∃ n, exe sc (mth cod n d) cd n pc ls st M = some r := lim_ex h
/-- THE EQUATION of an instruction -/
theorem evk_eq (cod : Nat → List zE) (sc : Option (Nat × (Nat → Int32))) (d : Nat) (cd : List zE) (pc : Nat) (ls : zLs) (st : List Value) (M : zM) :
    evk cod sc d cd pc ls st M = match zent cd pc with
      | none => none
      | some e => stp sc (evM cod d) e ls st M (fun pc' ls' st' M' => evk cod sc d cd pc' (zms cd pc' ls') st' M') := by
  have up : ∀ n, kLe (exe sc (mth cod n d) cd n) (exe sc (mth cod (n + 1) d) cd (n + 1)) := fun n => exe_up (mth_up cod n d) cd n
  have key : ∀ r, evk cod sc d cd pc ls st M = some r ↔ (match zent cd pc with
      | none => none
      | some e => stp sc (evM cod d) e ls st M (fun pc' ls' st' M' => evk cod sc d cd pc' (zms cd pc' ls') st' M')) = some r := by
    intro r
    constructor
    · intro h
      obtain ⟨n, hn⟩ := lim_ex h
      cases n with
      | zero => cases hn
      | succ n =>
        simp only [exe] at hn
        split at hn
        · cases hn
        · rename_i e he
          rw [he]
          refine (stp_Ct sc e ls st M).1 _ _ _ _ r ?_ ?_ hn
          · intro z as M r h
            exact lim_of (f := fun n => mth cod n d z as M) (n := n + 1) (fun n r h => mth_up cod n d z as M r h) h
          · intro a1 a2 a3 a4 r h
            exact lim_of (f := fun n => exe sc (mth cod n d) cd n a1 (zms cd a1 a2) a3 a4) (n := n + 1) (fun n r h => up n _ _ _ _ r h) (exe_f cd n _ _ _ _ r h)
    · intro h
      cases hz : zent cd pc with
      | none => rw [hz] at h; cases h
      | some e =>
        rw [hz] at h
        obtain ⟨n, hn⟩ := (stp_Ct sc e ls st M).2 (fun n => mth cod n d) (fun n pc' ls' st' M' => exe sc (mth cod n d) cd n pc' (zms cd pc' ls') st' M') (fun n => mth_up cod n d) (fun n a1 a2 a3 a4 r h => up n _ _ _ _ r h) r h
        refine lim_of (n := n + 1) (fun n r h => up n _ _ _ _ r h) ?_
        unfold exe
        rw [hz]
        exact (stp_Ct sc e ls st M).1 _ _ _ _ r (mth_up cod n d) (fun a1 a2 a3 a4 r h => exe_c (mth_up cod n d) cd n _ _ _ _ r h) hn
  cases h1 : evk cod sc d cd pc ls st M with
  | some r => exact ((key r).mp h1).symm
  | none =>
    cases h2 : (match zent cd pc with
      | none => none
      | some e => stp sc (evM cod d) e ls st M (fun pc' ls' st' M' => evk cod sc d cd pc' (zms cd pc' ls') st' M')) with
    | none => rfl
    | some r => rw [(key r).mpr h2] at h1; cases h1
end
