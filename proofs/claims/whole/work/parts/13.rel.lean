/-! how the pure machine's memory lies in the heap -/
def rfv (ad : Nat → Nat) (r : Nat) : Value := if r = 0 then .null else .ref (ad r)
def zv (fv : Value) (ad : Nat → Nat) : Value → Value
  | .ref r => rfv ad r
  | .retAddr _ => fv
  | v => v
def zq (fv : Value) (ad : Nat → Nat) (q : Nat × Value) : Nat × Value := (q.1, zv fv ad q.2)
def ztc : FieldType → Nat
  | .int => 0
  | .boolean => 0
  | .long => 1
  | .object _ => 2
  | .array _ => 2
  | _ => 3
def zsv (ad : Nat → Nat) (M : zM) (r ci j : Nat) : Value := if ztc (zTy ci j) = 0 then .int (gI M r j) else if ztc (zTy ci j) = 1 then .long (gL M r j) else rfv ad (gR M r j)
def zfs (ad : Nat → Nat) (M : zM) (r ci : Nat) : List Value := (List.range (zN ci)).map (fun j => zsv ad M r ci j)
def zaf (ad : Nat → Nat) (M : zM) (r : Nat) : Nat → Option Nat := fun j => if gR M r j = 0 then none else some (ad (gR M r j))
def zce (ad : Nat → Nat) (cA : Nat → ClassId) (M : zM) (r : Nat) : va_E :=
  if M.1.2.2.1 r < 13 then .inr (M.1.2.2.1 r, zfs ad M r (M.1.2.2.1 r))
  else if M.1.2.2.1 r = 23 then .inl (cA 23, gN M r, .inr (.inl (gL M r)))
  else if M.1.2.2.1 r = 24 ∨ M.1.2.2.1 r = 25 then .inl (cA (M.1.2.2.1 r), gN M r, .inr (.inr (.inr (.inr (zaf ad M r)))))
  else .inl (cA (M.1.2.2.1 r), gN M r, .inl (gI M r))
def zws (ad : Nat → Nat) (cA : Nat → ClassId) (M : zM) : va_W := (List.range M.1.1).map (fun i => (ad (i + 7), zce ad cA M (i + 7)))
def ztys (cA : Nat → ClassId) : List (ClassId × FieldType) := [(cA 20, .int), (cA 21, .byte), (cA 22, .boolean), (cA 23, .long), (cA 24, .object "SilkRise$State"), (cA 25, .array .int)]
def zwf (M : zM) : Prop := (∀ r j, gR M r j < M.1.1 + 7) ∧ ∀ a, M.1.2.2.1 a < 30
theorem zgk {M : zM} {r k : Nat} (h : gK M r = k) (h9 : k ≠ 99) (h30 : k ≠ 30) (h31 : k ≠ 31) : 7 ≤ r ∧ r < M.1.1 + 7 ∧ M.1.2.2.1 r = k := by
  unfold gK at h
  split at h
  · split at h
    · exact absurd h.symm h30
    · split at h
      · exact absurd h.symm h30
      · split at h
        · exact absurd h.symm h31
        · split at h
          · exact absurd h.symm h31
          · exact absurd h.symm h9
  · split at h
    · rename_i h1 h2
      exact ⟨Nat.le_of_not_lt h1, h2, h⟩
    · exact absurd h.symm h9
theorem zgk30 {M : zM} {r : Nat} (h : gK M r = 30) (hn : ∀ a, M.1.2.2.1 a ≠ 30) : r = 2 ∨ r = 3 := by
  unfold gK at h
  split at h
  · split at h
    · omega
    · split at h
      · omega
      · split at h
        · omega
        · split at h <;> omega
  · split at h
    · exact absurd h (hn r)
    · omega
theorem zgk31 {M : zM} {r : Nat} (h : gK M r = 31) (hn : ∀ a, M.1.2.2.1 a ≠ 31) : r = 4 ∨ r = 5 := by
  unfold gK at h
  split at h
  · split at h
    · omega
    · split at h
      · omega
      · split at h
        · omega
        · split at h <;> omega
  · split at h
    · exact absurd h (hn r)
    · omega
theorem zws_get {ad : Nat → Nat} {cA : Nat → ClassId} {M : zM} {r : Nat} (h1 : 7 ≤ r) (h2 : r < M.1.1 + 7) : (zws ad cA M)[r - 7]? = some (ad r, zce ad cA M r) := by
  unfold zws
  rw [List.getElem?_map, List.getElem?_range (by omega)]
  simp only [Option.map_some]
  rw [show r - 7 + 7 = r by omega]
theorem zws_len {ad : Nat → Nat} {cA : Nat → ClassId} {M : zM} : (zws ad cA M).length = M.1.1 := by simp [zws]
theorem zws_set {ad : Nat → Nat} {cA : Nat → ClassId} {M M' : zM} {r : Nat} {x : va_E} (hn : M'.1.1 = M.1.1) (h1 : 7 ≤ r) (h2 : r < M.1.1 + 7) (hE : ∀ a, a ≠ r → zce ad cA M' a = zce ad cA M a) (hx : zce ad cA M' r = x) : zws ad cA M' = (zws ad cA M).set (r - 7) (ad r, x) := by
  apply List.ext_getElem?
  intro i
  by_cases hi : i < M.1.1
  · have hl := zws_get (ad := ad) (cA := cA) (M := M') (r := i + 7) (by omega) (by omega)
    rw [show i + 7 - 7 = i by omega] at hl
    rw [hl, List.getElem?_set]
    by_cases e : r - 7 = i
    · rw [if_pos e, if_pos (by rw [zws_len]; omega)]
      have e2 : i + 7 = r := by omega
      rw [e2, hx]
    · rw [if_neg e]
      have hl2 := zws_get (ad := ad) (cA := cA) (M := M) (r := i + 7) (by omega) (by omega)
      rw [show i + 7 - 7 = i by omega] at hl2
      rw [hl2, hE _ (by omega)]
  · rw [List.getElem?_eq_none (by rw [zws_len]; omega), List.getElem?_eq_none (by rw [List.length_set, zws_len]; omega)]
theorem zfs_get {ad : Nat → Nat} {M : zM} {r ci j : Nat} (h : j < zN ci) : (zfs ad M r ci)[j]? = some (zsv ad M r ci j) := by
  unfold zfs
  rw [List.getElem?_map, List.getElem?_range h]
  rfl
theorem zfs_len {ad : Nat → Nat} {M : zM} {r ci : Nat} : (zfs ad M r ci).length = zN ci := by simp [zfs]
theorem zfs_set {ad : Nat → Nat} {M M' : zM} {r ci j : Nat} {v : Value} (h : j < zN ci) (hv : zsv ad M' r ci j = v) (hE : ∀ i, i ≠ j → zsv ad M' r ci i = zsv ad M r ci i) : zfs ad M' r ci = (zfs ad M r ci).set j v := by
  apply List.ext_getElem?
  intro i
  by_cases hi : i < zN ci
  · rw [zfs_get hi, List.getElem?_set]
    by_cases e : j = i
    · subst e
      rw [if_pos rfl, if_pos (by rw [zfs_len]; exact h), hv]
    · rw [if_neg e, zfs_get hi, hE i (fun q => e q.symm)]
  · rw [List.getElem?_eq_none (by rw [zfs_len]; omega), List.getElem?_eq_none (by rw [List.length_set, zfs_len]; omega)]
theorem gI_ne {M : zM} {r j : Nat} {x : Int32} {a b : Nat} (h : ¬ (a = r ∧ b = j)) : gI (sI M r j x) a b = gI M a b := by simp [gI, sI, h]
theorem gI_eq {M : zM} {r j : Nat} {x : Int32} : gI (sI M r j x) r j = x := by simp [gI, sI]
theorem gL_ne {M : zM} {r j : Nat} {x : Int64} {a b : Nat} (h : ¬ (a = r ∧ b = j)) : gL (sL M r j x) a b = gL M a b := by simp [gL, sL, h]
theorem gL_eq {M : zM} {r j : Nat} {x : Int64} : gL (sL M r j x) r j = x := by simp [gL, sL]
theorem gR_ne {M : zM} {r j x : Nat} {a b : Nat} (h : ¬ (a = r ∧ b = j)) : gR (sR M r j x) a b = gR M a b := by simp [gR, sR, h]
theorem gR_eq {M : zM} {r j x : Nat} : gR (sR M r j x) r j = x := by simp [gR, sR]
/-- a cell hangs on its own row alone -/
theorem zce_congr {ad : Nat → Nat} {cA : Nat → ClassId} {M M' : zM} {a : Nat} (hk : M'.1.2.2.1 a = M.1.2.2.1 a) (hn : gN M' a = gN M a) (hI : gI M' a = gI M a) (hL : gL M' a = gL M a) (hR : gR M' a = gR M a) : zce ad cA M' a = zce ad cA M a := by
  unfold zce zfs zsv zaf
  rw [hk, hn, hI, hL, hR]
theorem zce_ad {ad ad' : Nat → Nat} {cA : Nat → ClassId} {M : zM} {a : Nat} (h : ∀ j, gR M a j ≠ 0 → ad' (gR M a j) = ad (gR M a j)) : zce ad' cA M a = zce ad cA M a := by
  have h1 : ∀ j, rfv ad' (gR M a j) = rfv ad (gR M a j) := fun j => by
    unfold rfv
    by_cases e : gR M a j = 0
    · rw [if_pos e, if_pos e]
    · rw [if_neg e, if_neg e, h j e]
  have h2 : zaf ad' M a = zaf ad M a := by
    funext j
    unfold zaf
    by_cases e : gR M a j = 0
    · rw [if_pos e, if_pos e]
    · rw [if_neg e, if_neg e, h j e]
  have h3 : ∀ ci, zfs ad' M a ci = zfs ad M a ci := fun ci => by
    unfold zfs zsv
    simp only [h1]
  unfold zce
  rw [h2, h3]
theorem zce_obj {ad : Nat → Nat} {cA : Nat → ClassId} {M : zM} {r ci : Nat} (h : M.1.2.2.1 r = ci) (hc : ci < 13) : zce ad cA M r = .inr (ci, zfs ad M r ci) := by
  unfold zce
  rw [h, if_pos hc]
theorem zce_int {ad : Nat → Nat} {cA : Nat → ClassId} {M : zM} {r k : Nat} (h : M.1.2.2.1 r = k) (hc : 20 ≤ k ∧ k ≤ 22) : zce ad cA M r = .inl (cA k, gN M r, .inl (gI M r)) := by
  unfold zce
  rw [h, if_neg (by omega), if_neg (by omega), if_neg (by omega)]
theorem zce_long {ad : Nat → Nat} {cA : Nat → ClassId} {M : zM} {r : Nat} (h : M.1.2.2.1 r = 23) : zce ad cA M r = .inl (cA 23, gN M r, .inr (.inl (gL M r))) := by
  unfold zce
  rw [h, if_neg (by omega), if_pos rfl]
theorem zce_refs {ad : Nat → Nat} {cA : Nat → ClassId} {M : zM} {r k : Nat} (h : M.1.2.2.1 r = k) (hc : k = 24 ∨ k = 25) : zce ad cA M r = .inl (cA k, gN M r, .inr (.inr (.inr (.inr (zaf ad M r))))) := by
  unfold zce
  rw [h, if_neg (by omega), if_neg (by omega), if_pos hc]
theorem zce_sI {ad : Nat → Nat} {cA : Nat → ClassId} {M : zM} {r j : Nat} {x : Int32} {a : Nat} (h : a ≠ r) : zce ad cA (sI M r j x) a = zce ad cA M a :=
  zce_congr rfl rfl (funext fun b => gI_ne (fun q => h q.1)) rfl rfl
theorem zce_sL {ad : Nat → Nat} {cA : Nat → ClassId} {M : zM} {r j : Nat} {x : Int64} {a : Nat} (h : a ≠ r) : zce ad cA (sL M r j x) a = zce ad cA M a :=
  zce_congr rfl rfl rfl (funext fun b => gL_ne (fun q => h q.1)) rfl
theorem zce_sR {ad : Nat → Nat} {cA : Nat → ClassId} {M : zM} {r j x : Nat} {a : Nat} (h : a ≠ r) : zce ad cA (sR M r j x) a = zce ad cA M a :=
  zce_congr rfl rfl rfl rfl (funext fun b => gR_ne (fun q => h q.1))
/-- a field of whole numbers is stored to -/
theorem zws_sIf {ad : Nat → Nat} {cA : Nat → ClassId} {M : zM} {r ci j : Nat} {x : Int32} (h1 : 7 ≤ r) (h2 : r < M.1.1 + 7) (hk : M.1.2.2.1 r = ci) (hc : ci < 13) (hj : j < zN ci) (ht : ztc (zTy ci j) = 0) :
    zws ad cA (sI M r j x) = (zws ad cA M).set (r - 7) (ad r, .inr (ci, (zfs ad M r ci).set j (.int x))) := by
  refine zws_set rfl h1 h2 (fun a h => zce_sI h) ?_
  rw [zce_obj (M := sI M r j x) (r := r) (ci := ci) hk hc]
  refine congrArg (fun f => Sum.inr (ci, f)) (zfs_set hj ?_ ?_)
  · unfold zsv
    rw [if_pos ht, gI_eq]
  · intro i hi
    unfold zsv
    rw [gI_ne (fun q => hi q.2)]
    rfl
theorem zws_sLf {ad : Nat → Nat} {cA : Nat → ClassId} {M : zM} {r ci j : Nat} {x : Int64} (h1 : 7 ≤ r) (h2 : r < M.1.1 + 7) (hk : M.1.2.2.1 r = ci) (hc : ci < 13) (hj : j < zN ci) (ht : ztc (zTy ci j) = 1) :
    zws ad cA (sL M r j x) = (zws ad cA M).set (r - 7) (ad r, .inr (ci, (zfs ad M r ci).set j (.long x))) := by
  refine zws_set rfl h1 h2 (fun a h => zce_sL h) ?_
  rw [zce_obj (M := sL M r j x) (r := r) (ci := ci) hk hc]
  refine congrArg (fun f => Sum.inr (ci, f)) (zfs_set hj ?_ ?_)
  · unfold zsv
    rw [if_neg (by omega), if_pos ht, gL_eq]
  · intro i hi
    unfold zsv
    rw [gL_ne (fun q => hi q.2)]
    rfl
theorem zws_sRf {ad : Nat → Nat} {cA : Nat → ClassId} {M : zM} {r ci j x : Nat} (h1 : 7 ≤ r) (h2 : r < M.1.1 + 7) (hk : M.1.2.2.1 r = ci) (hc : ci < 13) (hj : j < zN ci) (ht : ztc (zTy ci j) = 2) :
    zws ad cA (sR M r j x) = (zws ad cA M).set (r - 7) (ad r, .inr (ci, (zfs ad M r ci).set j (rfv ad x))) := by
  refine zws_set rfl h1 h2 (fun a h => zce_sR h) ?_
  rw [zce_obj (M := sR M r j x) (r := r) (ci := ci) hk hc]
  refine congrArg (fun f => Sum.inr (ci, f)) (zfs_set hj ?_ ?_)
  · unfold zsv
    rw [if_neg (by omega), if_neg (by omega), gR_eq]
  · intro i hi
    unfold zsv
    rw [gR_ne (fun q => hi q.2)]
    rfl
/-- an array is stored to -/
theorem zws_sIa {ad : Nat → Nat} {cA : Nat → ClassId} {M : zM} {r k j : Nat} {x : Int32} (h1 : 7 ≤ r) (h2 : r < M.1.1 + 7) (hk : M.1.2.2.1 r = k) (hc : 20 ≤ k ∧ k ≤ 22) :
    zws ad cA (sI M r j x) = (zws ad cA M).set (r - 7) (ad r, .inl (cA k, gN M r, .inl (upd (gI M r) j x))) := by
  refine zws_set rfl h1 h2 (fun a h => zce_sI h) ?_
  rw [zce_int (M := sI M r j x) (r := r) (k := k) hk hc]
  refine congrArg (fun f => Sum.inl (cA k, gN M r, Sum.inl f)) (funext fun b => ?_)
  unfold upd
  by_cases e : b = j
  · subst e
    rw [gI_eq, if_pos rfl]
  · rw [gI_ne (fun q => e q.2), if_neg e]
theorem zws_sLa {ad : Nat → Nat} {cA : Nat → ClassId} {M : zM} {r j : Nat} {x : Int64} (h1 : 7 ≤ r) (h2 : r < M.1.1 + 7) (hk : M.1.2.2.1 r = 23) :
    zws ad cA (sL M r j x) = (zws ad cA M).set (r - 7) (ad r, .inl (cA 23, gN M r, .inr (.inl (vp_updL (gL M r) j x)))) := by
  refine zws_set rfl h1 h2 (fun a h => zce_sL h) ?_
  rw [zce_long (M := sL M r j x) (r := r) hk]
  refine congrArg (fun f => Sum.inl (cA 23, gN M r, Sum.inr (Sum.inl f))) (funext fun b => ?_)
  unfold vp_updL
  by_cases e : b = j
  · subst e
    rw [gL_eq, if_pos rfl]
  · rw [gL_ne (fun q => e q.2), if_neg e]
theorem zws_sRa {ad : Nat → Nat} {cA : Nat → ClassId} {M : zM} {r k j x : Nat} (h1 : 7 ≤ r) (h2 : r < M.1.1 + 7) (hk : M.1.2.2.1 r = k) (hc : k = 24 ∨ k = 25) (hx : x ≠ 0) :
    zws ad cA (sR M r j x) = (zws ad cA M).set (r - 7) (ad r, .inl (cA k, gN M r, .inr (.inr (.inr (.inr (va_up (zaf ad M r) j (some (ad x)))))))) := by
  refine zws_set rfl h1 h2 (fun a h => zce_sR h) ?_
  rw [zce_refs (M := sR M r j x) (r := r) (k := k) hk hc]
  refine congrArg (fun f => Sum.inl (cA k, gN M r, Sum.inr (Sum.inr (Sum.inr (Sum.inr f))))) (funext fun b => ?_)
  unfold va_up zaf
  by_cases e : b = j
  · subst e
    rw [gR_eq, if_neg hx, if_pos rfl]
  · rw [gR_ne (fun q => e q.2), if_neg e]
/-- copied to an int array -/
theorem zws_cI {ad : Nat → Nat} {cA : Nat → ClassId} {M : zM} {r s sp dp n : Nat} (h1 : 7 ≤ r) (h2 : r < M.1.1 + 7) (hk : M.1.2.2.1 r = 20) :
    zws ad cA (cI M s sp r dp n) = (zws ad cA M).set (r - 7) (ad r, .inl (cA 20, gN M r, .inl (va_cpy (gI M s) (gI M r) sp dp n))) := by
  refine zws_set rfl h1 h2 (fun a h => zce_congr rfl rfl (funext fun b => ?_) rfl rfl) ?_
  · show (if a = r ∧ dp ≤ b ∧ b < dp + n then _ else _) = _
    rw [if_neg (fun q => h q.1)]
    rfl
  · rw [zce_int (M := cI M s sp r dp n) (r := r) (k := 20) hk (by omega)]
    refine congrArg (fun f => Sum.inl (cA 20, gN M r, Sum.inl f)) (funext fun b => ?_)
    show (if r = r ∧ dp ≤ b ∧ b < dp + n then _ else _) = _
    unfold va_cpy
    by_cases e : dp ≤ b ∧ b < dp + n
    · rw [if_pos ⟨rfl, e⟩, if_pos e]
      rfl
    · rw [if_neg (fun q => e q.2), if_neg e]
      rfl
/-- one cell more -/
theorem zws_alc {ad ad' : Nat → Nat} {cA : Nat → ClassId} {M : zM} {kd len : Nat} (hw : zwf M) (had : ∀ r, r ≠ M.1.1 + 7 → ad' r = ad r) :
    zws ad' cA (alc M kd len) = zws ad cA M ++ [(ad' (M.1.1 + 7), zce ad' cA (alc M kd len) (M.1.1 + 7))] := by
  unfold zws
  rw [show (alc M kd len).1.1 = M.1.1 + 1 from rfl, List.range_succ, List.map_append]
  congr 1
  apply List.map_congr_left
  intro i hi
  have hi : i < M.1.1 := List.mem_range.mp hi
  have hne : ∀ {α : Type} (x y : α), (if i + 7 = M.1.1 + 7 then x else y) = y := fun x y => if_neg (by omega)
  rw [had _ (by omega)]
  congr 1
  have e1 : zce ad' cA (alc M kd len) (i + 7) = zce ad' cA M (i + 7) := by
    refine zce_congr ?_ ?_ (funext fun b => ?_) (funext fun b => ?_) (funext fun b => ?_)
    · exact hne _ _
    · exact hne _ _
    · exact hne _ _
    · exact hne _ _
    · exact hne _ _
  rw [e1]
  exact zce_ad fun j _ => had _ (by have := hw.1 (i + 7) j; omega)
theorem zwf_alc {M : zM} {kd len : Nat} (h : zwf M) (hk : kd < 30) : zwf (alc M kd len) := by
  refine ⟨fun r j => ?_, fun a => ?_⟩
  · show (if r = M.1.1 + 7 then 0 else _) < M.1.1 + 1 + 7
    split
    · omega
    · have := h.1 r j
      unfold gR at this
      omega
  · show (if a = M.1.1 + 7 then kd else _) < 30
    split
    · exact hk
    · exact h.2 a
theorem zwf_sR {M : zM} {r j x : Nat} (h : zwf M) (hx : x < M.1.1 + 7) : zwf (sR M r j x) := by
  refine ⟨fun a b => ?_, h.2⟩
  by_cases e : a = r ∧ b = j
  · obtain ⟨rfl, rfl⟩ := e
    rw [gR_eq]
    exact hx
  · rw [gR_ne e]
    exact h.1 a b
/-- the stack and the locals under another naming of what is to come -/
theorem zv_ad {fv : Value} {ad ad' : Nat → Nat} {M : zM} (had : ∀ r, r < M.1.1 + 7 → ad' r = ad r) {v : Value} (h : okv M v = true) : zv fv ad' v = zv fv ad v := by
  cases v with
  | ref r =>
    have hr : r < M.1.1 + 7 := by simpa [okv] using h
    show rfv ad' r = rfv ad r
    unfold rfv
    rw [had r hr]
  | _ => rfl
theorem okS_st {fv : Value} {ad ad' : Nat → Nat} {M : zM} (had : ∀ r, r < M.1.1 + 7 → ad' r = ad r) {ls : zLs} {st : List Value} (h : okS M ls st = true) : st.map (zv fv ad') = st.map (zv fv ad) ∧ ls.map (zq fv ad') = ls.map (zq fv ad) := by
  unfold okS at h
  rw [Bool.and_eq_true, List.all_eq_true, List.all_eq_true] at h
  refine ⟨List.map_congr_left fun v hv => zv_ad had (h.1 v hv), List.map_congr_left fun q hq => ?_⟩
  unfold zq
  rw [zv_ad had (h.2 q hq)]
theorem rfv_cat {ad : Nat → Nat} (r : Nat) : (rfv ad r).category = 1 := by
  unfold rfv
  split <;> rfl
theorem zv_cat {fv : Value} {ad : Nat → Nat} (hf : fv.category = 1) (v : Value) : (zv fv ad v).category = v.category := by
  cases v with
  | ref r => exact rfv_cat r
  | retAddr _ => exact hf
  | _ => rfl
theorem zsum_map {fv : Value} {ad : Nat → Nat} (hf : fv.category = 1) (st : List Value) : ((st.map (zv fv ad)).map fun v => v.category).sum = zsum st := by
  unfold zsum
  rw [List.map_map]
  exact congrArg List.sum (List.map_congr_left fun v _ => zv_cat hf v)
theorem zl_mem {ls : zLs} {i : Nat} {v : Value} (h : zl ls i = some v) : (i, v) ∈ ls := by
  induction ls with
  | nil => cases h
  | cons q r ih =>
    unfold zl at h
    split at h
    · rename_i hb
      cases h
      have := Nat.eq_of_beq_eq_true hb
      subst this
      exact List.mem_cons_self
    · exact List.mem_cons_of_mem _ (ih h)
theorem zl_has {fv : Value} {ad : Nat → Nat} {L : Array Slot} {nL : Nat} {ls : zLs} (hl : lv_has L nL (ls.map (zq fv ad))) {i : Nat} {v : Value} (h : zl ls i = some v) : L[i]? = some (.val (zv fv ad v)) :=
  hl.2.2 (i, zv fv ad v) (List.mem_map.mpr ⟨(i, v), zl_mem h, rfl⟩)
theorem zs1_map {fv : Value} {ad : Nat → Nat} (hf : fv.category = 1) (ls : zLs) (i : Nat) (v : Value) : (i, zv fv ad v) :: (ls.map (zq fv ad)).filter (fun q => !(q.1 == i) && !(q.1 + 1 == i && q.2.category == 2)) = (zs1 ls i v).map (zq fv ad) := by
  unfold zs1
  rw [List.map_cons]
  congr 1
  rw [List.filter_map]
  congr 1
  apply List.filter_congr
  intro q _
  simp [Function.comp, zq, zv_cat hf]
theorem zs2_map {fv : Value} {ad : Nat → Nat} (hf : fv.category = 1) (ls : zLs) (i : Nat) (v : Value) : (i, zv fv ad v) :: (ls.map (zq fv ad)).filter (fun q => !(q.1 == i) && (!(q.1 == i + 1) && !(q.1 + 1 == i && q.2.category == 2))) = (zs2 ls i v).map (zq fv ad) := by
  unfold zs2
  rw [List.map_cons]
  congr 1
  rw [List.filter_map]
  congr 1
  apply List.filter_congr
  intro q _
  simp [Function.comp, zq, zv_cat hf]
theorem zmk_mem {o : Option (List Nat)} {ls : zLs} {q : Nat × Value} (h : q ∈ zmk o ls) : q ∈ ls := by
  unfold zmk at h
  split at h
  · exact h
  · rw [List.mem_filterMap] at h
    obtain ⟨i, _, hi⟩ := h
    rw [Option.map_eq_some_iff] at hi
    obtain ⟨v, hv, rfl⟩ := hi
    exact zl_mem hv
theorem zms_mem {cd : List zE} {pc : Nat} {ls : zLs} {q : Nat × Value} (h : q ∈ zms cd pc ls) : q ∈ ls := by
  unfold zms at h
  split at h
  · exact zmk_mem h
  · exact h
theorem lv_fewer {L : Array Slot} {nL : Nat} {l l' : List (Nat × Value)} (h : lv_has L nL l) (hm : ∀ q ∈ l', q ∈ l) : lv_has L nL l' := ⟨h.1, h.2.1, fun q hq => h.2.2 q (hm q hq)⟩
/-- what a step's parts say -/
theorem lI_some {ls : zLs} {i : Nat} {f : Int32 → Option zR} {r : zR} (h : lI ls i f = some r) : ∃ x, zl ls i = some (.int x) ∧ f x = some r := by
  unfold lI at h
  split at h
  · exact ⟨_, by assumption, h⟩
  · cases h
theorem lL_some {ls : zLs} {i : Nat} {f : Int64 → Option zR} {r : zR} (h : lL ls i f = some r) : ∃ x, zl ls i = some (.long x) ∧ f x = some r := by
  unfold lL at h
  split at h
  · exact ⟨_, by assumption, h⟩
  · cases h
theorem lA_some {ls : zLs} {i : Nat} {f : Nat → Option zR} {r : zR} (h : lA ls i f = some r) : ∃ x, zl ls i = some (.ref x) ∧ f x = some r := by
  unfold lA at h
  split at h
  · exact ⟨_, by assumption, h⟩
  · cases h
theorem pI_some {st : List Value} {f : Int32 → List Value → Option zR} {r : zR} (h : pI st f = some r) : ∃ x st', st = .int x :: st' ∧ f x st' = some r := by
  unfold pI at h
  split at h
  · exact ⟨_, _, rfl, h⟩
  · cases h
theorem pL_some {st : List Value} {f : Int64 → List Value → Option zR} {r : zR} (h : pL st f = some r) : ∃ x st', st = .long x :: st' ∧ f x st' = some r := by
  unfold pL at h
  split at h
  · exact ⟨_, _, rfl, h⟩
  · cases h
theorem pA_some {st : List Value} {f : Nat → List Value → Option zR} {r : zR} (h : pA st f = some r) : ∃ x st', st = .ref x :: st' ∧ f x st' = some r := by
  unfold pA at h
  split at h
  · exact ⟨_, _, rfl, h⟩
  · cases h
theorem p1_some {fv : Value} {ad : Nat → Nat} {st : List Value} {f : Value → List Value → Option zR} {r : zR} (h : p1 st f = some r) : ∃ x st', st = x :: st' ∧ (zv fv ad x).category = 1 ∧ f x st' = some r := by
  unfold p1 at h
  split at h
  · exact ⟨_, _, rfl, rfl, h⟩
  · exact ⟨_, _, rfl, rfv_cat _, h⟩
  · cases h
theorem pN_some {st : List Value} {o : Option zR} {r : zR} (h : pN st o = some r) : st = [] ∧ o = some r := by
  unfold pN at h
  split at h
  · exact ⟨rfl, h⟩
  · cases h
theorem pS_some {sc : Option (Nat × (Nat → Int32))} {f : Nat → (Nat → Int32) → Option zR} {r : zR} (h : pS sc f = some r) : ∃ a b, sc = some (a, b) ∧ f a b = some r := by
  unfold pS at h
  split at h
  · exact ⟨_, _, rfl, h⟩
  · cases h
theorem pop_some {n : Nat} {st : List Value} {f : List Value → List Value → Option zR} {r : zR} (h : pop n st f = some r) : ∃ as st', st = as.reverse ++ st' ∧ as.length = n ∧ zsum st' ≤ 8 ∧ f as st' = some r := by
  unfold pop at h
  split at h
  · rename_i hc
    refine ⟨(st.take n).reverse, st.drop n, ?_, ?_, hc.2, h⟩
    · rw [List.reverse_reverse, List.take_append_drop]
    · rw [List.length_reverse, List.length_take]
      omega
  · cases h
theorem ite_some {p : Prop} {_ : Decidable p} {o : Option zR} {r : zR} (h : (if p then o else none) = some r) : p ∧ o = some r := by
  split at h
  · exact ⟨by assumption, h⟩
  · cases h
