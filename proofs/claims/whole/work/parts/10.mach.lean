/-! A PURE MACHINE: bytecode over a memory of numbers. References are numbers from 7 on in the order of making (0: null; 1: the script; 2, 3: two String constants, 4, 5: their bytes). -/
abbrev zM : Type := (Nat × Nat × (Nat → Nat) × (Nat → Nat) × (Nat → Nat → Nat)) × (Nat → Nat → Int32) × (Nat → Nat → Int64)
abbrev zLs : Type := List (Nat × Value)
abbrev zR : Type := Option Value × zM
abbrev zE : Type := Nat × Instr × Nat × List Nat × Option (List Nat)
abbrev zC : Type := Nat → List Value → zM → Option zR
abbrev zK : Type := Nat → zLs → List Value → zM → Option zR
/-- what kind a reference is: a class's number; 20 int[], 21 byte[], 22 boolean[], 23 long[], 24 State[], 25 int[][] -/
def gK (M : zM) (r : Nat) : Nat := if r < 7 then (if r = 2 then 30 else if r = 3 then 30 else if r = 4 then 31 else if r = 5 then 31 else 99) else if r < M.1.1 + 7 then M.1.2.2.1 r else 99
def gN (M : zM) (r : Nat) : Nat := M.1.2.2.2.1 r
def gR (M : zM) (r j : Nat) : Nat := M.1.2.2.2.2 r j
def gI (M : zM) (r j : Nat) : Int32 := M.2.1 r j
def gL (M : zM) (r j : Nat) : Int64 := M.2.2 r j
def sI (M : zM) (r j : Nat) (x : Int32) : zM := (M.1, (fun a b => if a = r ∧ b = j then x else M.2.1 a b), M.2.2)
def sL (M : zM) (r j : Nat) (x : Int64) : zM := (M.1, M.2.1, (fun a b => if a = r ∧ b = j then x else M.2.2 a b))
def sR (M : zM) (r j : Nat) (x : Nat) : zM := ((M.1.1, M.1.2.1, M.1.2.2.1, M.1.2.2.2.1, (fun a b => if a = r ∧ b = j then x else M.1.2.2.2.2 a b)), M.2.1, M.2.2)
/-- f on from the places of dp is g's of sp, n of them -/
def cI (M : zM) (src sp dst dp n : Nat) : zM := (M.1, (fun a b => if a = dst ∧ dp ≤ b ∧ b < dp + n then M.2.1 src (sp + (b - dp)) else M.2.1 a b), M.2.2)
/-- one cell more, of kind kd, of len places, w of them counted -/
def alc (M : zM) (kd len : Nat) : zM := ((M.1.1 + 1, M.1.2.1 + len, (fun a => if a = M.1.1 + 7 then kd else M.1.2.2.1 a), (fun a => if a = M.1.1 + 7 then len else M.1.2.2.2.1 a), (fun a b => if a = M.1.1 + 7 then 0 else M.1.2.2.2.2 a b)), (fun a b => if a = M.1.1 + 7 then 0 else M.2.1 a b), (fun a b => if a = M.1.1 + 7 then 0 else M.2.2 a b))
/-- an array of n int arrays of k places -/
def alg (M : zM) (n k : Nat) : zM := ((M.1.1 + 1 + n, M.1.2.1 + n + n * k, (fun a => if a = M.1.1 + 7 then 25 else if M.1.1 + 7 ≤ a then 20 else M.1.2.2.1 a), (fun a => if a = M.1.1 + 7 then n else if M.1.1 + 7 ≤ a then k else M.1.2.2.2.1 a), (fun a b => if a = M.1.1 + 7 then (if b < n then M.1.1 + 8 + b else 0) else if M.1.1 + 7 ≤ a then 0 else M.1.2.2.2.2 a b)), (fun a b => if M.1.1 + 7 ≤ a then 0 else M.2.1 a b), (fun a b => if M.1.1 + 7 ≤ a then 0 else M.2.2 a b))
def zl : zLs → Nat → Option Value
  | [], _ => none
  | q :: r, i => match Nat.beq q.1 i with
    | true => some q.2
    | false => zl r i
def zmk (o : Option (List Nat)) (ls : zLs) : zLs := match o with
  | none => ls
  | some ps => ps.filterMap (fun i => (zl ls i).map (fun v => (i, v)))
/-- a place is stored to: as the kit's rows say it -/
def zs1 (ls : zLs) (i : Nat) (v : Value) : zLs := (i, v) :: ls.filter (fun q => !(q.1 == i) && !(q.1 + 1 == i && q.2.category == 2))
def zs2 (ls : zLs) (i : Nat) (v : Value) : zLs := (i, v) :: ls.filter (fun q => !(q.1 == i) && (!(q.1 == i + 1) && !(q.1 + 1 == i && q.2.category == 2)))
def lI (ls : zLs) (i : Nat) (f : Int32 → Option zR) : Option zR := match zl ls i with
  | some (.int x) => f x
  | _ => none
def lL (ls : zLs) (i : Nat) (f : Int64 → Option zR) : Option zR := match zl ls i with
  | some (.long x) => f x
  | _ => none
def lA (ls : zLs) (i : Nat) (f : Nat → Option zR) : Option zR := match zl ls i with
  | some (.ref x) => f x
  | _ => none
def pI (st : List Value) (f : Int32 → List Value → Option zR) : Option zR := match st with
  | .int x :: r => f x r
  | _ => none
def pL (st : List Value) (f : Int64 → List Value → Option zR) : Option zR := match st with
  | .long x :: r => f x r
  | _ => none
def pA (st : List Value) (f : Nat → List Value → Option zR) : Option zR := match st with
  | .ref x :: r => f x r
  | _ => none
/-- a value of one word -/
def p1 (st : List Value) (f : Value → List Value → Option zR) : Option zR := match st with
  | .int x :: r => f (.int x) r
  | .ref x :: r => f (.ref x) r
  | _ => none
def bV (o : Option zR) (f : zM → Option zR) : Option zR := match o with
  | some (none, M) => f M
  | _ => none
def bI (o : Option zR) (f : Int32 → zM → Option zR) : Option zR := match o with
  | some (some (.int x), M) => f x M
  | _ => none
def bL (o : Option zR) (f : Int64 → zM → Option zR) : Option zR := match o with
  | some (some (.long x), M) => f x M
  | _ => none
abbrev zin (i : Int32) (n : Nat) : Prop := 0 ≤ i.toInt ∧ i.toInt < (n : Int)
def zix (i : Int32) : Nat := i.toInt.toNat
def zsum (st : List Value) : Nat := (st.map fun v => v.category).sum
/-- nargs values off the stack, the rest has room -/
def pop (n : Nat) (st : List Value) (f : List Value → List Value → Option zR) : Option zR :=
  if n ≤ st.length ∧ zsum (st.drop n) ≤ 8 then f (st.take n).reverse (st.drop n) else none
def zsw (x : Int32) (f : Nat → Option zR) (d : Nat) : Int → List Nat → Option zR
  | _, [] => f d
  | lo, t :: ts => if x = Int32.ofInt lo then f t else zsw x f d (lo + 1) ts
def cBack (ret : Nat) (o : Option zR) (f : List Value → zM → Option zR) : Option zR :=
  if ret = 0 then bV o fun M => f [] M else if ret = 1 then bI o fun x M => f [.int x] M else bL o fun x M => f [.long x] M
def pN (st : List Value) (o : Option zR) : Option zR := match st with
  | [] => o
  | _ => none
def pS (sc : Option (Nat × (Nat → Int32))) (f : Nat → (Nat → Int32) → Option zR) : Option zR := match sc with
  | some s => f s.1 s.2
  | none => none
def okv (M : zM) : Value → Bool
  | .ref r => decide (r < M.1.1 + 7)
  | _ => true
/-- no reference beyond what is made -/
def okS (M : zM) (ls : zLs) (st : List Value) : Bool := st.all (okv M) && ls.all (fun q => okv M q.2)
abbrev ax (e : zE) (i : Nat) : Nat := e.2.2.2.1.getD i 0
/-- the bytes of the two String constants -/
def zby (r : Nat) : List Int32 := if r = 4 then [108, 111, 97, 100, 32, 115, 105, 108, 107, 32, 104, 111, 111, 107, 32, 108, 105, 102, 116, 32, 119, 105, 110, 100, 32, 116, 105, 101, 115, 32, 112, 97, 121, 115, 32, 114, 105, 109, 32, 103, 117, 115, 116, 115, 32, 115, 101, 101, 100, 32, 105, 102, 32, 116, 104, 101, 110, 32, 101, 108, 115, 101, 32, 104, 111, 117, 114, 32, 100, 97, 121, 32, 115, 105, 122, 101, 32, 119, 101, 105, 103, 104, 116, 32, 104, 105, 103, 104, 32, 97, 99, 114, 111, 115, 115, 32, 112, 114, 105, 99, 101, 32, 117, 112, 32, 115, 116, 111, 114, 101, 100, 32] else [59, 61, 43, 45, 42, 47, 60, 40, 41]
/-- one instruction -/
def stp (sc : Option (Nat × (Nat → Int32))) (cal : zC) (e : zE) (ls : zLs) (st : List Value) (M : zM) (k : zK) : Option zR :=
  match e.2.1 with
  | .iload_n i => lI ls i fun x => k e.2.2.1 ls (.int x :: st) M
  | .iload i => lI ls i fun x => k e.2.2.1 ls (.int x :: st) M
  | .lload_n i => lL ls i fun x => k e.2.2.1 ls (.long x :: st) M
  | .lload i => lL ls i fun x => k e.2.2.1 ls (.long x :: st) M
  | .aload_n i => lA ls i fun x => k e.2.2.1 ls (.ref x :: st) M
  | .aload i => lA ls i fun x => k e.2.2.1 ls (.ref x :: st) M
  | .istore_n i => pI st fun x st => k e.2.2.1 (zs1 ls i (.int x)) st M
  | .istore i => pI st fun x st => k e.2.2.1 (zs1 ls i (.int x)) st M
  | .astore_n i => pA st fun x st => k e.2.2.1 (zs1 ls i (.ref x)) st M
  | .astore i => pA st fun x st => k e.2.2.1 (zs1 ls i (.ref x)) st M
  | .lstore_n i => pL st fun x st => k e.2.2.1 (zs2 ls i (.long x)) st M
  | .lstore i => pL st fun x st => k e.2.2.1 (zs2 ls i (.long x)) st M
  | .iinc i n => lI ls i fun x => k e.2.2.1 (zs1 ls i (.int (x + Int32.ofInt n))) st M
  | .iconst n => k e.2.2.1 ls (.int (Int32.ofInt n) :: st) M
  | .bipush n => k e.2.2.1 ls (.int (Int8.ofInt n).toInt32 :: st) M
  | .sipush n => k e.2.2.1 ls (.int (Int16.ofInt n).toInt32 :: st) M
  | .lconst n => k e.2.2.1 ls (.long (Int64.ofNat n) :: st) M
  | .ldc _ => if ax e 0 = 0 then k e.2.2.1 ls (.int (Int32.ofNat (ax e 1)) :: st) M else k e.2.2.1 ls (.ref (ax e 1 + 2) :: st) M
  | .ldc_w _ => k e.2.2.1 ls (.int (Int32.ofNat (ax e 1)) :: st) M
  | .ldc2_w _ => k e.2.2.1 ls (.long (Int64.ofNat (ax e 1)) :: st) M
  | .dup => p1 st fun v st => k e.2.2.1 ls (v :: v :: st) M
  | .dup2 => p1 st fun v st => p1 st fun w st => k e.2.2.1 ls (v :: w :: v :: w :: st) M
  | .pop => p1 st fun _ st => k e.2.2.1 ls st M
  | .iadd => pI st fun y st => pI st fun x st => k e.2.2.1 ls (.int (x + y) :: st) M
  | .isub => pI st fun y st => pI st fun x st => k e.2.2.1 ls (.int (x - y) :: st) M
  | .imul => pI st fun y st => pI st fun x st => k e.2.2.1 ls (.int (x * y) :: st) M
  | .iand => pI st fun y st => pI st fun x st => k e.2.2.1 ls (.int (x &&& y) :: st) M
  | .ior => pI st fun y st => pI st fun x st => k e.2.2.1 ls (.int (x ||| y) :: st) M
  | .ixor => pI st fun y st => pI st fun x st => k e.2.2.1 ls (.int (x ^^^ y) :: st) M
  | .ishl => pI st fun y st => pI st fun x st => k e.2.2.1 ls (.int (x <<< (y &&& 31)) :: st) M
  | .ishr => pI st fun y st => pI st fun x st => k e.2.2.1 ls (.int (x >>> (y &&& 31)) :: st) M
  | .iushr => pI st fun y st => pI st fun x st => k e.2.2.1 ls (.int (x.toUInt32 >>> (y.toUInt32 &&& 31)).toInt32 :: st) M
  | .ineg => pI st fun x st => k e.2.2.1 ls (.int (-x) :: st) M
  | .idiv => pI st fun y st => pI st fun x st => if y = 0 then none else k e.2.2.1 ls (.int (x / y) :: st) M
  | .irem => pI st fun y st => pI st fun x st => if y = 0 then none else k e.2.2.1 ls (.int (x - x / y * y) :: st) M
  | .i2b => pI st fun x st => k e.2.2.1 ls (.int x.toInt8.toInt32 :: st) M
  | .i2c => pI st fun x st => k e.2.2.1 ls (.int (x.toUInt32 % 65536).toInt32 :: st) M
  | .i2l => pI st fun x st => k e.2.2.1 ls (.long x.toInt64 :: st) M
  | .l2i => pL st fun x st => k e.2.2.1 ls (.int x.toInt32 :: st) M
  | .ladd => pL st fun y st => pL st fun x st => k e.2.2.1 ls (.long (x + y) :: st) M
  | .lmul => pL st fun y st => pL st fun x st => k e.2.2.1 ls (.long (x * y) :: st) M
  | .lcmp => pL st fun y st => pL st fun x st => k e.2.2.1 ls (.int (lg_cmp x y) :: st) M
  | .goto _ => k (ax e 0) ls st M
  | .ifCond .eq _ => pI st fun x st => if x = 0 then k (ax e 0) ls st M else k e.2.2.1 ls st M
  | .ifCond .ne _ => pI st fun x st => if ¬ x = 0 then k (ax e 0) ls st M else k e.2.2.1 ls st M
  | .ifCond .lt _ => pI st fun x st => if x < 0 then k (ax e 0) ls st M else k e.2.2.1 ls st M
  | .ifCond .ge _ => pI st fun x st => if 0 ≤ x then k (ax e 0) ls st M else k e.2.2.1 ls st M
  | .ifCond .gt _ => pI st fun x st => if 0 < x then k (ax e 0) ls st M else k e.2.2.1 ls st M
  | .ifCond .le _ => pI st fun x st => if x ≤ 0 then k (ax e 0) ls st M else k e.2.2.1 ls st M
  | .if_icmp .eq _ => pI st fun y st => pI st fun x st => if x = y then k (ax e 0) ls st M else k e.2.2.1 ls st M
  | .if_icmp .ne _ => pI st fun y st => pI st fun x st => if ¬ x = y then k (ax e 0) ls st M else k e.2.2.1 ls st M
  | .if_icmp .lt _ => pI st fun y st => pI st fun x st => if x < y then k (ax e 0) ls st M else k e.2.2.1 ls st M
  | .if_icmp .ge _ => pI st fun y st => pI st fun x st => if y ≤ x then k (ax e 0) ls st M else k e.2.2.1 ls st M
  | .if_icmp .gt _ => pI st fun y st => pI st fun x st => if y < x then k (ax e 0) ls st M else k e.2.2.1 ls st M
  | .if_icmp .le _ => pI st fun y st => pI st fun x st => if x ≤ y then k (ax e 0) ls st M else k e.2.2.1 ls st M
  | .tableswitch _ lo _ _ => pI st fun x st => zsw x (fun t => k t ls st M) (ax e 0) lo (e.2.2.2.1.drop 1)
  | .getfield _ => if ax e 0 = 30 then (if ax e 1 = 0 then pA st fun r st => if gK M r = 30 then k e.2.2.1 ls (.ref (r + 2) :: st) M else none
      else pA st fun r st => if gK M r = 30 then k e.2.2.1 ls (.int 0 :: st) M else none)
    else if ax e 2 = 0 then pA st fun r st => if gK M r = ax e 0 then k e.2.2.1 ls (.int (gI M r (ax e 1)) :: st) M else none
    else if ax e 2 = 1 then pA st fun r st => if gK M r = ax e 0 then k e.2.2.1 ls (.long (gL M r (ax e 1)) :: st) M else none
    else pA st fun r st => if gK M r = ax e 0 then k e.2.2.1 ls (.ref (gR M r (ax e 1)) :: st) M else none
  | .putfield _ => if ax e 2 = 3 then pI st fun x st => pA st fun r st => if gK M r = ax e 0 ∧ (x = 0 ∨ x = 1) then k e.2.2.1 ls st (sI M r (ax e 1) x) else none
    else if ax e 2 = 0 then pI st fun x st => pA st fun r st => if gK M r = ax e 0 then k e.2.2.1 ls st (sI M r (ax e 1) x) else none
    else if ax e 2 = 1 then pL st fun x st => pA st fun r st => if gK M r = ax e 0 then k e.2.2.1 ls st (sL M r (ax e 1) x) else none
    else pA st fun x st => pA st fun r st => if gK M r = ax e 0 ∧ x < M.1.1 + 7 then k e.2.2.1 ls st (sR M r (ax e 1) x) else none
  | .getstatic _ => if ax e 0 = 0 then k e.2.2.1 ls (.int 1 :: st) M else k e.2.2.1 ls (.retAddr 0 :: st) M
  | .iaload => if ax e 0 = 40 then pS sc fun L xs => pI st fun i st => pA st fun r st => if r = 1 ∧ zin i L then k e.2.2.1 ls (.int (xs (zix i)) :: st) M else none
    else pI st fun i st => pA st fun r st => if gK M r = 20 ∧ zin i (gN M r) then k e.2.2.1 ls (.int (gI M r (zix i)) :: st) M else none
  | .laload => pI st fun i st => pA st fun r st => if gK M r = 23 ∧ zin i (gN M r) then k e.2.2.1 ls (.long (gL M r (zix i)) :: st) M else none
  | .baload => if ax e 0 = 31 then pI st fun i st => pA st fun r st => if gK M r = 31 ∧ zin i (zby r).length then k e.2.2.1 ls (.int ((zby r).getD (zix i) 0) :: st) M else none
    else pI st fun i st => pA st fun r st => if gK M r = ax e 0 ∧ zin i (gN M r) then k e.2.2.1 ls (.int (gI M r (zix i)) :: st) M else none
  | .aaload => pI st fun i st => pA st fun r st => if gK M r = ax e 0 ∧ zin i (gN M r) then k e.2.2.1 ls (.ref (gR M r (zix i)) :: st) M else none
  | .iastore => pI st fun x st => pI st fun i st => pA st fun r st => if gK M r = 20 ∧ zin i (gN M r) then k e.2.2.1 ls st (sI M r (zix i) x) else none
  | .lastore => pL st fun x st => pI st fun i st => pA st fun r st => if gK M r = 23 ∧ zin i (gN M r) then k e.2.2.1 ls st (sL M r (zix i) x) else none
  | .bastore => if ax e 0 = 21 then pI st fun x st => pI st fun i st => pA st fun r st => if gK M r = 21 ∧ zin i (gN M r) then k e.2.2.1 ls st (sI M r (zix i) x.toInt8.toInt32) else none
    else pI st fun x st => pI st fun i st => pA st fun r st => if gK M r = 22 ∧ zin i (gN M r) then k e.2.2.1 ls st (sI M r (zix i) (x &&& 1)) else none
  | .aastore => pA st fun x st => pI st fun i st => pA st fun r st => if gK M r = 24 ∧ zin i (gN M r) ∧ gK M x = 8 then k e.2.2.1 ls st (sR M r (zix i) x) else none
  | .arraylength => if ax e 0 = 40 then pS sc fun L _ => pA st fun r st => if r = 1 then k e.2.2.1 ls (.int (Int32.ofNat L) :: st) M else none
    else if ax e 0 = 31 then pA st fun r st => if gK M r = 31 then k e.2.2.1 ls (.int (Int32.ofNat (zby r).length) :: st) M else none
    else pA st fun r st => if gK M r = ax e 0 then k e.2.2.1 ls (.int (Int32.ofNat (gN M r)) :: st) M else none
  | .new _ => if okS M ls st = true then k e.2.2.1 ls (.ref (M.1.1 + 7) :: st) (alc M (ax e 0) (ax e 1)) else none
  | .newarray _ => pI st fun n st => if (0 ≤ n.toInt ∧ n.toInt < 100000) ∧ okS M ls st = true then k e.2.2.1 ls (.ref (M.1.1 + 7) :: st) (alc M (ax e 0) n.toInt.toNat) else none
  | .anewarray _ => pI st fun n st => if (0 ≤ n.toInt ∧ n.toInt < 100000) ∧ okS M ls st = true then k e.2.2.1 ls (.ref (M.1.1 + 7) :: st) (alc M 24 n.toInt.toNat) else none
  | .multianewarray _ _ => pI st fun m st => pI st fun n st => if (0 ≤ n.toInt ∧ n.toInt < 1000) ∧ (0 ≤ m.toInt ∧ m.toInt < 1000) ∧ okS M ls st = true then k e.2.2.1 ls (.ref (M.1.1 + 7) :: st) (alg M n.toInt.toNat m.toInt.toNat) else none
  | .invokestatic _ => if ax e 0 = 9999 then pI st fun n st => pI st fun dp st => pA st fun d st => pI st fun sp st => pA st fun s st =>
        if gK M s = 20 ∧ gK M d = 20 ∧ 0 ≤ sp.toInt ∧ 0 ≤ dp.toInt ∧ 0 ≤ n.toInt ∧ sp.toInt + n.toInt ≤ gN M s ∧ dp.toInt + n.toInt ≤ gN M d then pN st (k e.2.2.1 ls [] (cI M s (zix sp) d (zix dp) (zix n))) else none
    else pop (ax e 1) st fun as st => cBack (ax e 2) (cal (ax e 0) as M) fun v M1 => if M1.1.1 = M.1.1 then k e.2.2.1 ls (v ++ st) M1 else none
  | .invokevirtual _ => pop (ax e 1) st fun as st => pA st fun r st => if gK M r = ax e 3 then cBack (ax e 2) (cal (ax e 0) (.ref r :: as) M) fun v M1 => if M1.1.1 = M.1.1 then k e.2.2.1 ls (v ++ st) M1 else none else none
  | .invokespecial _ => if ax e 0 = 9998 then pA st fun r st => if 0 < r then pN st (k e.2.2.1 ls [] M) else none
    else pop (ax e 1) st fun as st => pA st fun r st => if 0 < r ∧ okS M ls st = true then cBack 0 (cal (ax e 0) (.ref r :: as) M) fun v M1 => k e.2.2.1 ls (v ++ st) M1 else none
  | .ireturn => pI st fun x st => pN st (if ax e 0 = 0 then some (some (.int x), M)
      else if ax e 0 = 1 then (if x = 0 ∨ x = 1 then some (some (.int x), M) else none)
      else if ax e 0 = 2 then (if 0 ≤ x.toInt ∧ x.toInt < 65536 then some (some (.int x), M) else none)
      else if -128 ≤ x.toInt ∧ x.toInt < 128 then some (some (.int x), M) else none)
  | .lreturn => pL st fun x st => pN st (some (some (.long x), M))
  | .return_ => pN st (some (none, M))
  | _ => none
def zent : List zE → Nat → Option zE
  | [], _ => none
  | e :: r, pc => match Nat.beq e.1 pc with
    | true => some e
    | false => zent r pc
def zms (cd : List zE) (pc : Nat) (ls : zLs) : zLs := match zent cd pc with
  | some e => zmk e.2.2.2.2 ls
  | none => ls
def exe (sc : Option (Nat × (Nat → Int32))) (cal : zC) (cd : List zE) : Nat → zK
  | 0 => fun _ _ _ _ => none
  | n + 1 => fun pc ls st M => match zent cd pc with
    | none => none
    | some e => stp sc cal e ls st M (fun pc' ls' st' M' => exe sc cal cd n pc' (zms cd pc' ls') st' M')
/-- method y by its code, d calls deep at most, each of n instructions at most -/
def mth (cod : Nat → Nat × List zE) (n : Nat) : Nat → zC
  | 0 => fun _ _ _ => none
  | d + 1 => fun y as M => if zsum as ≤ (cod y).1 then exe none (mth cod n d) (cod y).2 n 0 (lv_args 0 as) [] M else none
