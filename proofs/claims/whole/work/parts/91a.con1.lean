/-! THE CONSTRUCTORS, run: a memory kept as lists, the same machine over it -/
abbrev ycE : Type := Nat × Bool × Nat × Nat
abbrev ycM : Type := (Nat × Nat × List ycE) × List (Nat × Nat × Nat) × List (Nat × Nat × Int32) × List (Nat × Nat × Int64)
abbrev ycR : Type := Option Value × ycM
abbrev ycC : Type := Nat → List Value → ycM → Option ycR
abbrev ycK : Type := Nat → zLs → List Value → ycM → Option ycR
def yeK : List ycE → Nat → Nat × Nat
  | [], _ => (0, 0)
  | e :: r, a => match (bif e.2.1 then Nat.ble e.1 a else Nat.beq a e.1) with
    | true => e.2.2
    | false => yeK r a
def ylk {α : Type} (z : α) : List (Nat × Nat × α) → Nat → Nat → α
  | [], _, _ => z
  | e :: r, a, j => match (bif Nat.beq a e.1 then Nat.beq j e.2.1 else false) with
    | true => e.2.2
    | false => ylk z r a j
def ydn (c : ycM) : zM := ((c.1.1, c.1.2.1, (fun a => (yeK c.1.2.2 a).1), (fun a => (yeK c.1.2.2 a).2), (fun a b => ylk 0 c.2.1 a b)), (fun a b => ylk 0 c.2.2.1 a b), (fun a b => ylk 0 c.2.2.2 a b))
def yWFl {α : Type} (n : Nat) (l : List (Nat × Nat × α)) : Prop := ∀ e ∈ l, e.1 < n + 7
def yWFc (c : ycM) : Prop := yWFl c.1.1 c.2.1 ∧ yWFl c.1.1 c.2.2.1 ∧ yWFl c.1.1 c.2.2.2
theorem ylk_c {α : Type} (z : α) (r : List (Nat × Nat × α)) (x y : Nat) (v : α) (a b : Nat) : ylk z ((x, y, v) :: r) a b = if a = x ∧ b = y then v else ylk z r a b := by
  show (match (bif Nat.beq a x then Nat.beq b y else false) with
    | true => v
    | false => ylk z r a b) = _
  by_cases h : a = x
  · by_cases h2 : b = y
    · rw [if_pos ⟨h, h2⟩, show Nat.beq a x = true from Nat.beq_eq.mpr h, show Nat.beq b y = true from Nat.beq_eq.mpr h2]
      rfl
    · rw [if_neg (fun q => h2 q.2), show Nat.beq a x = true from Nat.beq_eq.mpr h, show Nat.beq b y = false from Bool.eq_false_iff.mpr (fun q => h2 (Nat.beq_eq.mp q))]
      rfl
  · rw [if_neg (fun q => h q.1), show Nat.beq a x = false from Bool.eq_false_iff.mpr (fun q => h (Nat.beq_eq.mp q))]
    rfl
theorem ylk_out {α : Type} {z : α} {n a : Nat} (ha : n + 7 ≤ a) (b : Nat) : ∀ {l : List (Nat × Nat × α)}, yWFl n l → ylk z l a b = z
  | [], _ => rfl
  | (x, y, v) :: r, h => by
    rw [ylk_c, if_neg (fun q => by have := h _ List.mem_cons_self; dsimp only at this; omega)]
    exact ylk_out ha b (fun e he => h e (List.mem_cons_of_mem _ he))
theorem ylk_no {α : Type} {z : α} {a : Nat} (b : Nat) : ∀ {l : List (Nat × Nat × α)}, (∀ e ∈ l, ¬ e.1 = a) → ylk z l a b = z
  | [], _ => rfl
  | (x, y, v) :: r, h => by
    rw [ylk_c, if_neg (fun q => h _ List.mem_cons_self q.1.symm)]
    exact ylk_no b (fun e he => h e (List.mem_cons_of_mem _ he))
theorem yeK_c (l : List ycE) (x k n a : Nat) : yeK ((x, false, k, n) :: l) a = if a = x then (k, n) else yeK l a := by
  show (match Nat.beq a x with
    | true => (k, n)
    | false => yeK l a) = _
  by_cases h : a = x
  · rw [if_pos h, show Nat.beq a x = true from Nat.beq_eq.mpr h]
  · rw [if_neg h, show Nat.beq a x = false from Bool.eq_false_iff.mpr (fun q => h (Nat.beq_eq.mp q))]
theorem yeK_f (l : List ycE) (x k n a : Nat) : yeK ((x, true, k, n) :: l) a = if x ≤ a then (k, n) else yeK l a := by
  show (match Nat.ble x a with
    | true => (k, n)
    | false => yeK l a) = _
  by_cases h : x ≤ a
  · rw [if_pos h, show Nat.ble x a = true from Nat.ble_eq.mpr h]
  · rw [if_neg h, show Nat.ble x a = false from Bool.eq_false_iff.mpr (fun q => h (Nat.ble_eq.mp q))]
def ysIC (c : ycM) (r j : Nat) (x : Int32) : ycM := (c.1, c.2.1, (r, j, x) :: c.2.2.1, c.2.2.2)
def ysLC (c : ycM) (r j : Nat) (x : Int64) : ycM := (c.1, c.2.1, c.2.2.1, (r, j, x) :: c.2.2.2)
def ysRC (c : ycM) (r j : Nat) (x : Nat) : ycM := (c.1, (r, j, x) :: c.2.1, c.2.2)
def yalC (c : ycM) (kd len : Nat) : ycM := ((c.1.1 + 1, c.1.2.1 + len, (c.1.1 + 7, false, kd, len) :: c.1.2.2), c.2)
def yalr (n : Nat) (l : List (Nat × Nat × Nat)) : Nat → List (Nat × Nat × Nat)
  | 0 => l
  | m + 1 => (n + 7, m, n + 8 + m) :: yalr n l m
def yagC (c : ycM) (n k : Nat) : ycM := ((c.1.1 + 1 + n, c.1.2.1 + n + n * k, (c.1.1 + 7, false, 25, n) :: (c.1.1 + 7, true, 20, k) :: c.1.2.2), yalr c.1.1 c.2.1 n, c.2.2)
theorem ysIC_d (c : ycM) (r j : Nat) (x : Int32) : ydn (ysIC c r j x) = sI (ydn c) r j x := by
  unfold ydn sI ysIC
  congr 2
  funext a b
  exact ylk_c _ _ _ _ _ _ _
theorem ysLC_d (c : ycM) (r j : Nat) (x : Int64) : ydn (ysLC c r j x) = sL (ydn c) r j x := by
  unfold ydn sL ysLC
  congr 2
  funext a b
  exact ylk_c _ _ _ _ _ _ _
theorem ysRC_d (c : ycM) (r j x : Nat) : ydn (ysRC c r j x) = sR (ydn c) r j x := by
  unfold ydn sR ysRC
  dsimp only
  congr 5
  funext a b
  exact ylk_c _ _ _ _ _ _ _
theorem ylk_al {α : Type} {z : α} {n : Nat} {l : List (Nat × Nat × α)} (h : yWFl n l) : (fun a b => ylk z l a b) = fun a b => if a = n + 7 then z else ylk z l a b := by
  funext a b
  by_cases q : a = n + 7
  · rw [if_pos q]
    exact ylk_out (by omega) b h
  · rw [if_neg q]
theorem ylk_ag {α : Type} {z : α} {n : Nat} {l : List (Nat × Nat × α)} (h : yWFl n l) : (fun a b => ylk z l a b) = fun a b => if n + 7 ≤ a then z else ylk z l a b := by
  funext a b
  by_cases q : n + 7 ≤ a
  · rw [if_pos q]
    exact ylk_out q b h
  · rw [if_neg q]
theorem yalC_d {c : ycM} (w : yWFc c) (k n : Nat) : ydn (yalC c k n) = alc (ydn c) k n := by
  unfold ydn yalC alc
  dsimp only
  have e1 : (fun a => (yeK ((c.1.1 + 7, false, k, n) :: c.1.2.2) a).1) = fun a => if a = c.1.1 + 7 then k else (yeK c.1.2.2 a).1 := by
    funext a
    rw [yeK_c]
    split <;> rfl
  have e2 : (fun a => (yeK ((c.1.1 + 7, false, k, n) :: c.1.2.2) a).2) = fun a => if a = c.1.1 + 7 then n else (yeK c.1.2.2 a).2 := by
    funext a
    rw [yeK_c]
    split <;> rfl
  rw [e1, e2, ← ylk_al w.1, ← ylk_al w.2.1, ← ylk_al w.2.2]
theorem yalr_d (n : Nat) (l : List (Nat × Nat × Nat)) (a b : Nat) : ∀ m, ylk 0 (yalr n l m) a b = if a = n + 7 ∧ b < m then n + 8 + b else ylk 0 l a b
  | 0 => by rw [if_neg (by omega)]; rfl
  | m + 1 => by
    show ylk 0 ((n + 7, m, n + 8 + m) :: yalr n l m) a b = _
    rw [ylk_c, yalr_d n l a b m]
    by_cases h : a = n + 7
    · by_cases h1 : b = m
      · rw [if_pos ⟨h, h1⟩, if_pos ⟨h, by omega⟩, h1]
      · by_cases h2 : b < m
        · rw [if_neg (by omega), if_pos ⟨h, h2⟩, if_pos ⟨h, by omega⟩]
        · rw [if_neg (by omega), if_neg (by omega), if_neg (by omega)]
    · rw [if_neg (by omega), if_neg (by omega), if_neg (by omega)]
theorem yagC_d {c : ycM} (w : yWFc c) (n k : Nat) : ydn (yagC c n k) = alg (ydn c) n k := by
  unfold ydn yagC alg
  dsimp only
  have e1 : (fun a => (yeK ((c.1.1 + 7, false, 25, n) :: (c.1.1 + 7, true, 20, k) :: c.1.2.2) a).1) = fun a => if a = c.1.1 + 7 then 25 else if c.1.1 + 7 ≤ a then 20 else (yeK c.1.2.2 a).1 := by
    funext a
    rw [yeK_c, yeK_f]
    split
    · rfl
    · split <;> rfl
  have e2 : (fun a => (yeK ((c.1.1 + 7, false, 25, n) :: (c.1.1 + 7, true, 20, k) :: c.1.2.2) a).2) = fun a => if a = c.1.1 + 7 then n else if c.1.1 + 7 ≤ a then k else (yeK c.1.2.2 a).2 := by
    funext a
    rw [yeK_c, yeK_f]
    split
    · rfl
    · split <;> rfl
  have e3 : (fun a b => ylk 0 (yalr c.1.1 c.2.1 n) a b) = fun a b => if a = c.1.1 + 7 then (if b < n then c.1.1 + 8 + b else 0) else if c.1.1 + 7 ≤ a then 0 else ylk 0 c.2.1 a b := by
    funext a b
    rw [yalr_d]
    by_cases h : a = c.1.1 + 7
    · by_cases h2 : b < n
      · rw [if_pos ⟨h, h2⟩, if_pos h, if_pos h2]
      · rw [if_neg (by omega), if_pos h, if_neg h2]
        exact ylk_out (by omega) b w.1
    · rw [if_neg (by omega), if_neg h]
      by_cases h3 : c.1.1 + 7 ≤ a
      · rw [if_pos h3]
        exact ylk_out h3 b w.1
      · rw [if_neg h3]
  rw [e1, e2, e3, ← ylk_ag w.2.1, ← ylk_ag w.2.2]
theorem yWFl.up {α : Type} {n m : Nat} {l : List (Nat × Nat × α)} (h : yWFl n l) (q : n ≤ m) : yWFl m l := fun e he => Nat.lt_of_lt_of_le (h e he) (by omega)
theorem yWFl.cs {α : Type} {n r j : Nat} {x : α} {l : List (Nat × Nat × α)} (h : yWFl n l) (q : r < n + 7) : yWFl n ((r, j, x) :: l) := fun e he => by
  rcases List.mem_cons.mp he with rfl | he
  · exact q
  · exact h e he
theorem yWFl.ar {n m : Nat} {l : List (Nat × Nat × Nat)} (h : yWFl n l) (q : n < m) : ∀ k, yWFl m (yalr n l k)
  | 0 => h.up (by omega)
  | k + 1 => yWFl.cs (yWFl.ar h q k) (by omega)
theorem yWFc.sI {c : ycM} (w : yWFc c) {r : Nat} (h : r < c.1.1 + 7) (j : Nat) (x : Int32) : yWFc (ysIC c r j x) := ⟨w.1, w.2.1.cs h, w.2.2⟩
theorem yWFc.sL {c : ycM} (w : yWFc c) {r : Nat} (h : r < c.1.1 + 7) (j : Nat) (x : Int64) : yWFc (ysLC c r j x) := ⟨w.1, w.2.1, w.2.2.cs h⟩
theorem yWFc.sR {c : ycM} (w : yWFc c) {r : Nat} (h : r < c.1.1 + 7) (j x : Nat) : yWFc (ysRC c r j x) := ⟨w.1.cs h, w.2⟩
theorem yWFc.al {c : ycM} (w : yWFc c) (k n : Nat) : yWFc (yalC c k n) := ⟨w.1.up (Nat.le_succ _), w.2.1.up (Nat.le_succ _), w.2.2.up (Nat.le_succ _)⟩
theorem yWFc.ag {c : ycM} (w : yWFc c) (n k : Nat) : yWFc (yagC c n k) := ⟨yWFl.ar w.1 (show c.1.1 < c.1.1 + 1 + n by omega) n, w.2.1.up (show c.1.1 ≤ c.1.1 + 1 + n by omega), w.2.2.up (show c.1.1 ≤ c.1.1 + 1 + n by omega)⟩
def ywrC (c : ycM) (r : Nat) (o : Option ycR) : Option ycR := if r < c.1.1 + 7 then o else none
def ylIC (ls : zLs) (i : Nat) (f : Int32 → Option ycR) : Option ycR := match zl ls i with
  | some (.int x) => f x
  | _ => none
def ylLC (ls : zLs) (i : Nat) (f : Int64 → Option ycR) : Option ycR := match zl ls i with
  | some (.long x) => f x
  | _ => none
def ylAC (ls : zLs) (i : Nat) (f : Nat → Option ycR) : Option ycR := match zl ls i with
  | some (.ref x) => f x
  | _ => none
def ypIC (st : List Value) (f : Int32 → List Value → Option ycR) : Option ycR := match st with
  | .int x :: r => f x r
  | _ => none
def ypLC (st : List Value) (f : Int64 → List Value → Option ycR) : Option ycR := match st with
  | .long x :: r => f x r
  | _ => none
def ypAC (st : List Value) (f : Nat → List Value → Option ycR) : Option ycR := match st with
  | .ref x :: r => f x r
  | _ => none
def yp1C (st : List Value) (f : Value → List Value → Option ycR) : Option ycR := match st with
  | .int x :: r => f (.int x) r
  | .ref x :: r => f (.ref x) r
  | _ => none
def ybVC (o : Option ycR) (f : ycM → Option ycR) : Option ycR := match o with
  | some (none, M) => f M
  | _ => none
def ybIC (o : Option ycR) (f : Int32 → ycM → Option ycR) : Option ycR := match o with
  | some (some (.int x), M) => f x M
  | _ => none
def ybLC (o : Option ycR) (f : Int64 → ycM → Option ycR) : Option ycR := match o with
  | some (some (.long x), M) => f x M
  | _ => none
def ypopC (n : Nat) (st : List Value) (f : List Value → List Value → Option ycR) : Option ycR :=
  if n ≤ st.length ∧ zsum (st.drop n) ≤ 8 then f (st.take n).reverse (st.drop n) else none
def yzswC (x : Int32) (f : Nat → Option ycR) (d : Nat) : Int → List Nat → Option ycR
  | _, [] => f d
  | lo, t :: ts => if x = Int32.ofInt lo then f t else yzswC x f d (lo + 1) ts
def ycBackC (ret : Nat) (o : Option ycR) (f : List Value → ycM → Option ycR) : Option ycR :=
  if ret = 0 then ybVC o fun M => f [] M else if ret = 1 then ybIC o fun x M => f [.int x] M else ybLC o fun x M => f [.long x] M
def ypNC (st : List Value) (o : Option ycR) : Option ycR := match st with
  | [] => o
  | _ => none
def ystC (cal : ycC) (e : zE) (ls : zLs) (st : List Value) (M : ycM) (k : ycK) : Option ycR :=
  match e.2.1 with
  | .iload_n i => ylIC ls i fun x => k e.2.2.1 ls (.int x :: st) M
  | .iload i => ylIC ls i fun x => k e.2.2.1 ls (.int x :: st) M
  | .lload_n i => ylLC ls i fun x => k e.2.2.1 ls (.long x :: st) M
  | .lload i => ylLC ls i fun x => k e.2.2.1 ls (.long x :: st) M
  | .aload_n i => ylAC ls i fun x => k e.2.2.1 ls (.ref x :: st) M
  | .aload i => ylAC ls i fun x => k e.2.2.1 ls (.ref x :: st) M
  | .istore_n i => ypIC st fun x st => k e.2.2.1 (zs1 ls i (.int x)) st M
  | .istore i => ypIC st fun x st => k e.2.2.1 (zs1 ls i (.int x)) st M
  | .astore_n i => ypAC st fun x st => k e.2.2.1 (zs1 ls i (.ref x)) st M
  | .astore i => ypAC st fun x st => k e.2.2.1 (zs1 ls i (.ref x)) st M
  | .lstore_n i => ypLC st fun x st => k e.2.2.1 (zs2 ls i (.long x)) st M
  | .lstore i => ypLC st fun x st => k e.2.2.1 (zs2 ls i (.long x)) st M
  | .iinc i n => ylIC ls i fun x => k e.2.2.1 (zs1 ls i (.int (x + Int32.ofInt n))) st M
  | .iconst n => k e.2.2.1 ls (.int (Int32.ofInt n) :: st) M
  | .bipush n => k e.2.2.1 ls (.int (Int8.ofInt n).toInt32 :: st) M
  | .sipush n => k e.2.2.1 ls (.int (Int16.ofInt n).toInt32 :: st) M
  | .lconst n => k e.2.2.1 ls (.long (Int64.ofNat n) :: st) M
  | .ldc _ => if ax e 0 = 0 then k e.2.2.1 ls (.int (Int32.ofNat (ax e 1)) :: st) M else k e.2.2.1 ls (.ref (ax e 1 + 2) :: st) M
  | .ldc_w _ => k e.2.2.1 ls (.int (Int32.ofNat (ax e 1)) :: st) M
  | .ldc2_w _ => k e.2.2.1 ls (.long (Int64.ofNat (ax e 1)) :: st) M
  | .dup => yp1C st fun v st => k e.2.2.1 ls (v :: v :: st) M
  | .dup2 => yp1C st fun v st => yp1C st fun w st => k e.2.2.1 ls (v :: w :: v :: w :: st) M
  | .pop => yp1C st fun _ st => k e.2.2.1 ls st M
  | .iadd => ypIC st fun y st => ypIC st fun x st => k e.2.2.1 ls (.int (x + y) :: st) M
  | .isub => ypIC st fun y st => ypIC st fun x st => k e.2.2.1 ls (.int (x - y) :: st) M
  | .imul => ypIC st fun y st => ypIC st fun x st => k e.2.2.1 ls (.int (x * y) :: st) M
  | .iand => ypIC st fun y st => ypIC st fun x st => k e.2.2.1 ls (.int (x &&& y) :: st) M
  | .ior => ypIC st fun y st => ypIC st fun x st => k e.2.2.1 ls (.int (x ||| y) :: st) M
  | .ixor => ypIC st fun y st => ypIC st fun x st => k e.2.2.1 ls (.int (x ^^^ y) :: st) M
  | .ishl => ypIC st fun y st => ypIC st fun x st => k e.2.2.1 ls (.int (x <<< (y &&& 31)) :: st) M
  | .ishr => ypIC st fun y st => ypIC st fun x st => k e.2.2.1 ls (.int (x >>> (y &&& 31)) :: st) M
  | .iushr => ypIC st fun y st => ypIC st fun x st => k e.2.2.1 ls (.int (x.toUInt32 >>> (y.toUInt32 &&& 31)).toInt32 :: st) M
  | .ineg => ypIC st fun x st => k e.2.2.1 ls (.int (-x) :: st) M
  | .idiv => ypIC st fun y st => ypIC st fun x st => if y = 0 then none else k e.2.2.1 ls (.int (x / y) :: st) M
  | .irem => ypIC st fun y st => ypIC st fun x st => if y = 0 then none else k e.2.2.1 ls (.int (x - x / y * y) :: st) M
  | .i2b => ypIC st fun x st => k e.2.2.1 ls (.int x.toInt8.toInt32 :: st) M
  | .i2c => ypIC st fun x st => k e.2.2.1 ls (.int (x.toUInt32 % 65536).toInt32 :: st) M
  | .i2l => ypIC st fun x st => k e.2.2.1 ls (.long x.toInt64 :: st) M
  | .l2i => ypLC st fun x st => k e.2.2.1 ls (.int x.toInt32 :: st) M
  | .ladd => ypLC st fun y st => ypLC st fun x st => k e.2.2.1 ls (.long (x + y) :: st) M
  | .lmul => ypLC st fun y st => ypLC st fun x st => k e.2.2.1 ls (.long (x * y) :: st) M
  | .lcmp => ypLC st fun y st => ypLC st fun x st => k e.2.2.1 ls (.int (lg_cmp x y) :: st) M
  | .goto _ => k (ax e 0) ls st M
  | .ifCond .eq _ => ypIC st fun x st => if x = 0 then k (ax e 0) ls st M else k e.2.2.1 ls st M
  | .ifCond .ne _ => ypIC st fun x st => if ¬ x = 0 then k (ax e 0) ls st M else k e.2.2.1 ls st M
  | .ifCond .lt _ => ypIC st fun x st => if x < 0 then k (ax e 0) ls st M else k e.2.2.1 ls st M
  | .ifCond .ge _ => ypIC st fun x st => if 0 ≤ x then k (ax e 0) ls st M else k e.2.2.1 ls st M
  | .ifCond .gt _ => ypIC st fun x st => if 0 < x then k (ax e 0) ls st M else k e.2.2.1 ls st M
  | .ifCond .le _ => ypIC st fun x st => if x ≤ 0 then k (ax e 0) ls st M else k e.2.2.1 ls st M
  | .if_icmp .eq _ => ypIC st fun y st => ypIC st fun x st => if x = y then k (ax e 0) ls st M else k e.2.2.1 ls st M
  | .if_icmp .ne _ => ypIC st fun y st => ypIC st fun x st => if ¬ x = y then k (ax e 0) ls st M else k e.2.2.1 ls st M
  | .if_icmp .lt _ => ypIC st fun y st => ypIC st fun x st => if x < y then k (ax e 0) ls st M else k e.2.2.1 ls st M
  | .if_icmp .ge _ => ypIC st fun y st => ypIC st fun x st => if y ≤ x then k (ax e 0) ls st M else k e.2.2.1 ls st M
  | .if_icmp .gt _ => ypIC st fun y st => ypIC st fun x st => if y < x then k (ax e 0) ls st M else k e.2.2.1 ls st M
  | .if_icmp .le _ => ypIC st fun y st => ypIC st fun x st => if x ≤ y then k (ax e 0) ls st M else k e.2.2.1 ls st M
  | .tableswitch _ lo _ _ => ypIC st fun x st => yzswC x (fun t => k t ls st M) (ax e 0) lo (e.2.2.2.1.drop 1)
  | .getfield _ => if ax e 0 = 30 then (if ax e 1 = 0 then ypAC st fun r st => if gK (ydn M) r = 30 then k e.2.2.1 ls (.ref (r + 2) :: st) M else none
      else ypAC st fun r st => if gK (ydn M) r = 30 then k e.2.2.1 ls (.int 0 :: st) M else none)
    else if ax e 2 = 0 then ypAC st fun r st => if gK (ydn M) r = ax e 0 then k e.2.2.1 ls (.int (gI (ydn M) r (ax e 1)) :: st) M else none
    else if ax e 2 = 1 then ypAC st fun r st => if gK (ydn M) r = ax e 0 then k e.2.2.1 ls (.long (gL (ydn M) r (ax e 1)) :: st) M else none
    else ypAC st fun r st => if gK (ydn M) r = ax e 0 then k e.2.2.1 ls (.ref (gR (ydn M) r (ax e 1)) :: st) M else none
  | .putfield _ => if ax e 2 = 3 then ypIC st fun x st => ypAC st fun r st => if gK (ydn M) r = ax e 0 ∧ (x = 0 ∨ x = 1) then ywrC M r (k e.2.2.1 ls st (ysIC M r (ax e 1) x)) else none
    else if ax e 2 = 0 then ypIC st fun x st => ypAC st fun r st => if gK (ydn M) r = ax e 0 then ywrC M r (k e.2.2.1 ls st (ysIC M r (ax e 1) x)) else none
    else if ax e 2 = 1 then ypLC st fun x st => ypAC st fun r st => if gK (ydn M) r = ax e 0 then ywrC M r (k e.2.2.1 ls st (ysLC M r (ax e 1) x)) else none
    else ypAC st fun x st => ypAC st fun r st => if gK (ydn M) r = ax e 0 ∧ x < M.1.1 + 7 then ywrC M r (k e.2.2.1 ls st (ysRC M r (ax e 1) x)) else none
  | .getstatic _ => if ax e 0 = 0 then k e.2.2.1 ls (.int 1 :: st) M else k e.2.2.1 ls (.retAddr 0 :: st) M
  | .iaload => if ax e 0 = 40 then none
    else ypIC st fun i st => ypAC st fun r st => if gK (ydn M) r = 20 ∧ zin i (gN (ydn M) r) then k e.2.2.1 ls (.int (gI (ydn M) r (zix i)) :: st) M else none
  | .laload => ypIC st fun i st => ypAC st fun r st => if gK (ydn M) r = 23 ∧ zin i (gN (ydn M) r) then k e.2.2.1 ls (.long (gL (ydn M) r (zix i)) :: st) M else none
  | .baload => if ax e 0 = 31 then ypIC st fun i st => ypAC st fun r st => if gK (ydn M) r = 31 ∧ zin i (zby r).length then k e.2.2.1 ls (.int ((zby r).getD (zix i) 0) :: st) M else none
    else ypIC st fun i st => ypAC st fun r st => if gK (ydn M) r = ax e 0 ∧ zin i (gN (ydn M) r) then k e.2.2.1 ls (.int (gI (ydn M) r (zix i)) :: st) M else none
  | .aaload => ypIC st fun i st => ypAC st fun r st => if gK (ydn M) r = ax e 0 ∧ zin i (gN (ydn M) r) then k e.2.2.1 ls (.ref (gR (ydn M) r (zix i)) :: st) M else none
  | .iastore => ypIC st fun x st => ypIC st fun i st => ypAC st fun r st => if gK (ydn M) r = 20 ∧ zin i (gN (ydn M) r) then ywrC M r (k e.2.2.1 ls st (ysIC M r (zix i) x)) else none
  | .lastore => ypLC st fun x st => ypIC st fun i st => ypAC st fun r st => if gK (ydn M) r = 23 ∧ zin i (gN (ydn M) r) then ywrC M r (k e.2.2.1 ls st (ysLC M r (zix i) x)) else none
  | .bastore => if ax e 0 = 21 then ypIC st fun x st => ypIC st fun i st => ypAC st fun r st => if gK (ydn M) r = 21 ∧ zin i (gN (ydn M) r) then ywrC M r (k e.2.2.1 ls st (ysIC M r (zix i) x.toInt8.toInt32)) else none
    else ypIC st fun x st => ypIC st fun i st => ypAC st fun r st => if gK (ydn M) r = 22 ∧ zin i (gN (ydn M) r) then ywrC M r (k e.2.2.1 ls st (ysIC M r (zix i) (x &&& 1))) else none
  | .aastore => ypAC st fun x st => ypIC st fun i st => ypAC st fun r st => if gK (ydn M) r = 24 ∧ zin i (gN (ydn M) r) ∧ gK (ydn M) x = 8 then ywrC M r (k e.2.2.1 ls st (ysRC M r (zix i) x)) else none
  | .arraylength => if ax e 0 = 40 then none
    else if ax e 0 = 31 then ypAC st fun r st => if gK (ydn M) r = 31 then k e.2.2.1 ls (.int (Int32.ofNat (zby r).length) :: st) M else none
    else ypAC st fun r st => if gK (ydn M) r = ax e 0 then k e.2.2.1 ls (.int (Int32.ofNat (gN (ydn M) r)) :: st) M else none
  | .new _ => if okS (ydn M) ls st = true then k e.2.2.1 ls (.ref (M.1.1 + 7) :: st) (yalC M (ax e 0) (ax e 1)) else none
  | .newarray _ => ypIC st fun n st => if (0 ≤ n.toInt ∧ n.toInt < 100000) ∧ okS (ydn M) ls st = true then k e.2.2.1 ls (.ref (M.1.1 + 7) :: st) (yalC M (ax e 0) n.toInt.toNat) else none
  | .anewarray _ => ypIC st fun n st => if (0 ≤ n.toInt ∧ n.toInt < 100000) ∧ okS (ydn M) ls st = true then k e.2.2.1 ls (.ref (M.1.1 + 7) :: st) (yalC M 24 n.toInt.toNat) else none
  | .multianewarray _ _ => ypIC st fun m st => ypIC st fun n st => if (0 ≤ n.toInt ∧ n.toInt < 1000) ∧ (0 ≤ m.toInt ∧ m.toInt < 1000) ∧ okS (ydn M) ls st = true then k e.2.2.1 ls (.ref (M.1.1 + 7) :: st) (yagC M n.toInt.toNat m.toInt.toNat) else none
  | .invokestatic _ => if ax e 0 = 9999 then none
    else ypopC (ax e 1) st fun as st => ycBackC (ax e 2) (cal (ax e 0) as M) fun v M1 => if M1.1.1 = M.1.1 then k e.2.2.1 ls (v ++ st) M1 else none
  | .invokevirtual _ => ypopC (ax e 1) st fun as st => ypAC st fun r st => if gK (ydn M) r = ax e 3 then ycBackC (ax e 2) (cal (ax e 0) (.ref r :: as) M) fun v M1 => if M1.1.1 = M.1.1 then k e.2.2.1 ls (v ++ st) M1 else none else none
  | .invokespecial _ => if ax e 0 = 9998 then ypAC st fun r st => if 0 < r then ypNC st (k e.2.2.1 ls [] M) else none
    else ypopC (ax e 1) st fun as st => ypAC st fun r st => if 0 < r ∧ okS (ydn M) ls st = true then ycBackC 0 (cal (ax e 0) (.ref r :: as) M) fun v M1 => k e.2.2.1 ls (v ++ st) M1 else none
  | .ireturn => ypIC st fun x st => ypNC st (if ax e 0 = 0 then some (some (.int x), M)
      else if ax e 0 = 1 then (if x = 0 ∨ x = 1 then some (some (.int x), M) else none)
      else if ax e 0 = 2 then (if 0 ≤ x.toInt ∧ x.toInt < 65536 then some (some (.int x), M) else none)
      else if -128 ≤ x.toInt ∧ x.toInt < 128 then some (some (.int x), M) else none)
  | .lreturn => ypLC st fun x st => ypNC st (some (some (.long x), M))
  | .return_ => ypNC st (some (none, M))
  | _ => none
def yexC (cal : ycC) (cd : List zE) : Nat → ycK
  | 0 => fun _ _ _ _ => none
  | n + 1 => fun pc ls st c => match zent cd pc with
    | none => none
    | some e => ystC cal e ls st c (fun pc' ls' st' c' => yexC cal cd n pc' (zms cd pc' ls') st' c')
def ymtC (cod : Nat → Nat × List zE) (n : Nat) : Nat → ycC
  | 0 => fun _ _ _ => none
  | d + 1 => fun y as c => if zsum as ≤ (cod y).1 then yexC (ymtC cod n d) (cod y).2 n 0 (lv_args 0 as) [] c else none
/-! the one is the other -/
def ySm (o' : Option ycR) (o : Option zR) : Prop := ∀ v c, o' = some (v, c) → yWFc c ∧ o = some (v, ydn c)
theorem ySm_no (o : Option zR) : ySm none o := fun _ _ h => by cases h
theorem ySm_rt {c : ycM} (w : yWFc c) (v : Option Value) : ySm (some (v, c)) (some (v, ydn c)) := fun _ _ h => by cases h; exact ⟨w, rfl⟩
theorem ySm_if {p : Prop} {_ : Decidable p} {a b : Option ycR} {a' b' : Option zR} (h1 : ySm a a') (h2 : ySm b b') : ySm (if p then a else b) (if p then a' else b') := by
  split
  · exact h1
  · exact h2
theorem ySm_wr {c : ycM} {r : Nat} {o : Option ycR} {o' : Option zR} (h : r < c.1.1 + 7 → ySm o o') : ySm (ywrC c r o) o' := by
  unfold ywrC
  split
  · rename_i q; exact h q
  · exact ySm_no _
theorem ySm_lI {ls : zLs} {i : Nat} {f : Int32 → Option ycR} {f' : Int32 → Option zR} (h : ∀ x, ySm (f x) (f' x)) : ySm (ylIC ls i f) (lI ls i f') := by
  unfold ylIC lI
  cases zl ls i with
  | none => exact ySm_no _
  | some v => cases v <;> first | exact h _ | exact ySm_no _
theorem ySm_lL {ls : zLs} {i : Nat} {f : Int64 → Option ycR} {f' : Int64 → Option zR} (h : ∀ x, ySm (f x) (f' x)) : ySm (ylLC ls i f) (lL ls i f') := by
  unfold ylLC lL
  cases zl ls i with
  | none => exact ySm_no _
  | some v => cases v <;> first | exact h _ | exact ySm_no _
theorem ySm_lA {ls : zLs} {i : Nat} {f : Nat → Option ycR} {f' : Nat → Option zR} (h : ∀ x, ySm (f x) (f' x)) : ySm (ylAC ls i f) (lA ls i f') := by
  unfold ylAC lA
  cases zl ls i with
  | none => exact ySm_no _
  | some v => cases v <;> first | exact h _ | exact ySm_no _
theorem ySm_pI {st : List Value} {f : Int32 → List Value → Option ycR} {f' : Int32 → List Value → Option zR} (h : ∀ x st, ySm (f x st) (f' x st)) : ySm (ypIC st f) (pI st f') := by
  unfold ypIC pI
  split
  · exact h _ _
  · exact ySm_no _
theorem ySm_pL {st : List Value} {f : Int64 → List Value → Option ycR} {f' : Int64 → List Value → Option zR} (h : ∀ x st, ySm (f x st) (f' x st)) : ySm (ypLC st f) (pL st f') := by
  unfold ypLC pL
  split
  · exact h _ _
  · exact ySm_no _
theorem ySm_pA {st : List Value} {f : Nat → List Value → Option ycR} {f' : Nat → List Value → Option zR} (h : ∀ x st, ySm (f x st) (f' x st)) : ySm (ypAC st f) (pA st f') := by
  unfold ypAC pA
  split
  · exact h _ _
  · exact ySm_no _
theorem ySm_p1 {st : List Value} {f : Value → List Value → Option ycR} {f' : Value → List Value → Option zR} (h : ∀ x st, ySm (f x st) (f' x st)) : ySm (yp1C st f) (p1 st f') := by
  unfold yp1C p1
  split
  · exact h _ _
  · exact h _ _
  · exact ySm_no _
theorem ySm_pN {st : List Value} {o : Option ycR} {o' : Option zR} (h : ySm o o') : ySm (ypNC st o) (pN st o') := by
  unfold ypNC pN
  split
  · exact h
  · exact ySm_no _
theorem ySm_pop {n : Nat} {st : List Value} {f : List Value → List Value → Option ycR} {f' : List Value → List Value → Option zR} (h : ∀ x st, ySm (f x st) (f' x st)) : ySm (ypopC n st f) (pop n st f') := by
  unfold ypopC pop
  exact ySm_if (h _ _) (ySm_no _)
theorem ySm_zsw {x : Int32} {f : Nat → Option ycR} {f' : Nat → Option zR} (h : ∀ t, ySm (f t) (f' t)) (d : Nat) : ∀ (ts : List Nat) (lo : Int), ySm (yzswC x f d lo ts) (zsw x f' d lo ts)
  | [], _ => h d
  | _ :: ts, lo => ySm_if (h _) (ySm_zsw h d ts (lo + 1))
theorem ySm_bV {o : Option ycR} {o' : Option zR} {f : ycM → Option ycR} {f' : zM → Option zR} (ho : ySm o o') (h : ∀ c, yWFc c → ySm (f c) (f' (ydn c))) : ySm (ybVC o f) (bV o' f') := by
  unfold ybVC
  split
  · obtain ⟨w, e⟩ := ho _ _ rfl
    rw [e]
    exact h _ w
  · exact ySm_no _
theorem ySm_bI {o : Option ycR} {o' : Option zR} {f : Int32 → ycM → Option ycR} {f' : Int32 → zM → Option zR} (ho : ySm o o') (h : ∀ x c, yWFc c → ySm (f x c) (f' x (ydn c))) : ySm (ybIC o f) (bI o' f') := by
  unfold ybIC
  split
  · obtain ⟨w, e⟩ := ho _ _ rfl
    rw [e]
    exact h _ _ w
  · exact ySm_no _
theorem ySm_bL {o : Option ycR} {o' : Option zR} {f : Int64 → ycM → Option ycR} {f' : Int64 → zM → Option zR} (ho : ySm o o') (h : ∀ x c, yWFc c → ySm (f x c) (f' x (ydn c))) : ySm (ybLC o f) (bL o' f') := by
  unfold ybLC
  split
  · obtain ⟨w, e⟩ := ho _ _ rfl
    rw [e]
    exact h _ _ w
  · exact ySm_no _
theorem ySm_cB {ret : Nat} {o : Option ycR} {o' : Option zR} {f : List Value → ycM → Option ycR} {f' : List Value → zM → Option zR} (ho : ySm o o') (h : ∀ v c, yWFc c → ySm (f v c) (f' v (ydn c))) : ySm (ycBackC ret o f) (cBack ret o' f') := by
  unfold ycBackC cBack
  exact ySm_if (ySm_bV ho fun c w => h _ c w) (ySm_if (ySm_bI ho fun x c w => h _ c w) (ySm_bL ho fun x c w => h _ c w))
theorem ystC_Sm {cal : ycC} {cal' : zC} {k : ycK} {k' : zK} (hc : ∀ z as c, yWFc c → ySm (cal z as c) (cal' z as (ydn c))) (hk : ∀ pc ls st c, yWFc c → ySm (k pc ls st c) (k' pc ls st (ydn c))) (e : zE) (ls : zLs) (st : List Value) (c : ycM) (w : yWFc c) : ySm (ystC cal e ls st c k) (stp none cal' e ls st (ydn c) k') := by
  have kI : ∀ {pc ls st r j x}, r < c.1.1 + 7 → ySm (k pc ls st (ysIC c r j x)) (k' pc ls st (sI (ydn c) r j x)) := fun h => by
    rw [← ysIC_d]
    exact hk _ _ _ _ (w.sI h _ _)
  have kL : ∀ {pc ls st r j x}, r < c.1.1 + 7 → ySm (k pc ls st (ysLC c r j x)) (k' pc ls st (sL (ydn c) r j x)) := fun h => by
    rw [← ysLC_d]
    exact hk _ _ _ _ (w.sL h _ _)
  have kR : ∀ {pc ls st r j x}, r < c.1.1 + 7 → ySm (k pc ls st (ysRC c r j x)) (k' pc ls st (sR (ydn c) r j x)) := fun h => by
    rw [← ysRC_d]
    exact hk _ _ _ _ (w.sR h _ _)
  have kA : ∀ {pc ls st kd n}, ySm (k pc ls st (yalC c kd n)) (k' pc ls st (alc (ydn c) kd n)) := by
    intro pc ls st kd n
    rw [← yalC_d w]
    exact hk _ _ _ _ (w.al _ _)
  have kG : ∀ {pc ls st n m}, ySm (k pc ls st (yagC c n m)) (k' pc ls st (alg (ydn c) n m)) := by
    intro pc ls st n m
    rw [← yagC_d w]
    exact hk _ _ _ _ (w.ag _ _)
  have kk : ∀ {pc ls st}, ySm (k pc ls st c) (k' pc ls st (ydn c)) := hk _ _ _ _ w
  obtain ⟨pc, ins, nxt, aux, ld⟩ := e
  cases ins
  case ifCond q o => cases q <;> exact ySm_pI fun _ _ => ySm_if kk kk
  case if_icmp q o => cases q <;> exact ySm_pI fun _ _ => ySm_pI fun _ _ => ySm_if kk kk
  all_goals first
    | exact ySm_no _
    | exact kk
    | exact ySm_lI fun _ => kk
    | exact ySm_lL fun _ => kk
    | exact ySm_lA fun _ => kk
    | exact ySm_pI fun _ _ => kk
    | exact ySm_pL fun _ _ => kk
    | exact ySm_pA fun _ _ => kk
    | exact ySm_pI fun _ _ => ySm_pI fun _ _ => kk
    | exact ySm_pL fun _ _ => ySm_pL fun _ _ => kk
    | exact ySm_pI fun _ _ => ySm_pI fun _ _ => ySm_if (ySm_no _) kk
    | exact ySm_pN (ySm_rt w _)
    | exact ySm_pL fun _ _ => ySm_pN (ySm_rt w _)
    | exact ySm_if kk kk
    | skip
  case dup =>
    show ySm (yp1C st fun v st => k nxt ls (v :: v :: st) c) (p1 st fun v st => k' nxt ls (v :: v :: st) (ydn c))
    exact ySm_p1 fun _ _ => kk
  case dup2 =>
    show ySm (yp1C st fun v st => yp1C st fun w st => k nxt ls (v :: w :: v :: w :: st) c) (p1 st fun v st => p1 st fun w st => k' nxt ls (v :: w :: v :: w :: st) (ydn c))
    exact ySm_p1 fun _ _ => ySm_p1 fun _ _ => kk
  case pop =>
    show ySm (yp1C st fun _ st => k nxt ls st c) (p1 st fun _ st => k' nxt ls st (ydn c))
    exact ySm_p1 fun _ _ => kk
  case tableswitch d lo hi os => exact ySm_pI fun _ _ => ySm_zsw (fun _ => kk) _ _ _
  case getfield i => exact ySm_if (ySm_if (ySm_pA fun _ _ => ySm_if kk (ySm_no _)) (ySm_pA fun _ _ => ySm_if kk (ySm_no _))) (ySm_if (ySm_pA fun _ _ => ySm_if kk (ySm_no _)) (ySm_if (ySm_pA fun _ _ => ySm_if kk (ySm_no _)) (ySm_pA fun _ _ => ySm_if kk (ySm_no _))))
  case putfield i => exact ySm_if (ySm_pI fun _ _ => ySm_pA fun _ _ => ySm_if (ySm_wr fun q => kI q) (ySm_no _)) <| ySm_if (ySm_pI fun _ _ => ySm_pA fun _ _ => ySm_if (ySm_wr fun q => kI q) (ySm_no _)) (ySm_if (ySm_pL fun _ _ => ySm_pA fun _ _ => ySm_if (ySm_wr fun q => kL q) (ySm_no _)) (ySm_pA fun _ _ => ySm_pA fun _ _ => ySm_if (ySm_wr fun q => kR q) (ySm_no _)))
  case iaload => exact ySm_if (ySm_no _) (ySm_pI fun _ _ => ySm_pA fun _ _ => ySm_if kk (ySm_no _))
  case laload => exact ySm_pI fun _ _ => ySm_pA fun _ _ => ySm_if kk (ySm_no _)
  case baload => exact ySm_if (ySm_pI fun _ _ => ySm_pA fun _ _ => ySm_if kk (ySm_no _)) (ySm_pI fun _ _ => ySm_pA fun _ _ => ySm_if kk (ySm_no _))
  case aaload => exact ySm_pI fun _ _ => ySm_pA fun _ _ => ySm_if kk (ySm_no _)
  case iastore => exact ySm_pI fun _ _ => ySm_pI fun _ _ => ySm_pA fun _ _ => ySm_if (ySm_wr fun q => kI q) (ySm_no _)
  case lastore => exact ySm_pL fun _ _ => ySm_pI fun _ _ => ySm_pA fun _ _ => ySm_if (ySm_wr fun q => kL q) (ySm_no _)
  case bastore => exact ySm_if (ySm_pI fun _ _ => ySm_pI fun _ _ => ySm_pA fun _ _ => ySm_if (ySm_wr fun q => kI q) (ySm_no _)) (ySm_pI fun _ _ => ySm_pI fun _ _ => ySm_pA fun _ _ => ySm_if (ySm_wr fun q => kI q) (ySm_no _))
  case aastore => exact ySm_pA fun _ _ => ySm_pI fun _ _ => ySm_pA fun _ _ => ySm_if (ySm_wr fun q => kR q) (ySm_no _)
  case arraylength => exact ySm_if (ySm_no _) (ySm_if (ySm_pA fun _ _ => ySm_if kk (ySm_no _)) (ySm_pA fun _ _ => ySm_if kk (ySm_no _)))
  case new => exact ySm_if kA (ySm_no _)
  case newarray => exact ySm_pI fun _ _ => ySm_if kA (ySm_no _)
  case anewarray => exact ySm_pI fun _ _ => ySm_if kA (ySm_no _)
  case multianewarray => exact ySm_pI fun _ _ => ySm_pI fun _ _ => ySm_if kG (ySm_no _)
  case ireturn => exact ySm_pI fun _ _ => ySm_pN (ySm_if (ySm_rt w _) (ySm_if (ySm_if (ySm_rt w _) (ySm_no _)) (ySm_if (ySm_if (ySm_rt w _) (ySm_no _)) (ySm_if (ySm_rt w _) (ySm_no _)))))
  case invokestatic i => exact ySm_if (ySm_no _) (ySm_pop fun _ _ => ySm_cB (hc _ _ _ w) fun _ _ w1 => ySm_if (hk _ _ _ _ w1) (ySm_no _))
  case invokevirtual i =>
    refine ySm_pop fun as st => ySm_pA fun r st => ?_
    refine ySm_if ?_ (ySm_no _)
    exact ySm_cB (hc _ _ _ w) fun v M w1 => ySm_if (hk _ _ _ _ w1) (ySm_no _)
  case invokespecial i => exact ySm_if (ySm_pA fun _ _ => ySm_if (ySm_pN kk) (ySm_no _)) (ySm_pop fun _ _ => ySm_pA fun _ _ => ySm_if (ySm_cB (hc _ _ _ w) fun _ _ w1 => hk _ _ _ _ w1) (ySm_no _))
theorem yexC_Sm {cal : ycC} {cal' : zC} (hc : ∀ z as c, yWFc c → ySm (cal z as c) (cal' z as (ydn c))) (cd : List zE) : ∀ n pc ls st c, yWFc c → ySm (yexC cal cd n pc ls st c) (exe none cal' cd n pc ls st (ydn c))
  | 0, _, _, _, _, _ => ySm_no _
  | n + 1, pc, ls, st, c, w => by
    unfold yexC exe
    cases zent cd pc with
    | none => exact ySm_no _
    | some e => exact ystC_Sm hc (fun pc' ls' st' c' w' => yexC_Sm hc cd n pc' (zms cd pc' ls') st' c' w') e ls st c w
theorem ymtC_Sm (cod : Nat → Nat × List zE) (n : Nat) : ∀ d z as c, yWFc c → ySm (ymtC cod n d z as c) (mth cod n d z as (ydn c))
  | 0, _, _, _, _ => ySm_no _
  | d + 1, z, as, c, w => by
    unfold ymtC mth
    exact ySm_if (yexC_Sm (ymtC_Sm cod n d) _ _ _ _ _ _ w) (ySm_no _)
theorem ymtC_ev {cod : Nat → Nat × List zE} {n d z : Nat} {as : List Value} {c c' : ycM} {v : Option Value} (w : yWFc c) (h : ymtC cod n d z as c = some (v, c')) : yWFc c' ∧ evM cod d z as (ydn c) = some (v, ydn c') := by
  obtain ⟨w', e⟩ := ymtC_Sm cod n d z as c w _ _ h
  exact ⟨w', lim_of (f := fun n => mth cod n d z as (ydn c)) (n := n) (fun n r h => mth_up cod n d z as (ydn c) r h) e⟩
