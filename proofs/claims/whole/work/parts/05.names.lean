def va_AOA (t : FieldType) (U : State) : Prop := (Cond.arrayOver (.array t)).before #[] U = true
theorem va_AOA.use {t : FieldType} {A : Array Value} {U : State} (h : va_AOA t U) : (Cond.arrayOver (.array t)).before A U = true := h
/-! ===== BEGIN new T[n][m]: the outer array a place, the inner ones among the pooled ===== -/
/-- f, but v at every address of l -/
def vr_up {α : Type} (f : Nat → α) (l : List Nat) (v : α) : Nat → α := fun a => if a ∈ l then v else f a
theorem vr_up_in {α : Type} {f : Nat → α} {l : List Nat} {v : α} {a : Nat} (h : a ∈ l) : vr_up f l v a = v := if_pos h
theorem vr_up_ne {α : Type} {f : Nat → α} {l : List Nat} {v : α} {a : Nat} (h : a ∉ l) : vr_up f l v a = f a := if_neg h
theorem vr_rows {L l : List Nat} {f : Nat → va_E} {e : va_E} (h : ∀ a, a ∈ l → a ∉ L) : va_pl L f ++ l.map (fun a => (a, e)) = va_pl (L ++ l) (vr_up f l e) := by
  unfold va_pl
  rw [List.map_append]
  congr 1
  · apply List.map_congr_left
    intro a ha
    rw [vr_up_ne (fun q => h a q ha)]
  · apply List.map_congr_left
    intro a ha
    rw [vr_up_in ha]
theorem vr_lay {X rows : va_W} {x : Nat × va_E} {pl : va_W} {D : va_G} {cl : List vw_C} {H : Heap} (hP : va_P D cl (((X ++ pl) ++ [x]) ++ rows) H) : va_P D cl ((X ++ [x]) ++ (pl ++ rows)) H := by
  rw [List.append_assoc (X ++ pl)] at hP
  have h := va_P.swap hP
  rw [← List.append_assoc X] at h
  have h2 := va_P.swap h
  rw [List.append_assoc (X ++ [x])] at h2
  exact h2
theorem vr_layD {X rows : va_W} {x : Nat × va_E} {pl : va_W} {A : Nat → Prop} (hD : va_D A (((X ++ pl) ++ [x]) ++ rows)) : va_D A ((X ++ [x]) ++ (pl ++ rows)) := by
  rw [List.append_assoc (X ++ pl)] at hD
  have h := va_D.swap hD
  rw [← List.append_assoc X] at h
  have h2 := va_D.swap h
  rw [List.append_assoc (X ++ [x])] at h2
  exact h2
theorem vr_outer (c : ClassId) (N h0 : Nat) : ∀ i : Nat, Jvm.Free.Multi.outerC c N h0 i = arrV c N (fun j => va_rf (if j < i then some (h0 + 1 + j) else none))
  | 0 => by
    show ({ cls := c, slots := Array.replicate N .null, vm := .none } : Cell) = _
    rw [arrV_new]
    refine congrArg (arrV c N) (funext fun j => ?_)
    simp [va_rf]
  | i + 1 => by
    show (Jvm.Free.Multi.outerC c N h0 i).setSlot i (.ref (h0 + 1 + i)) = _
    rw [vr_outer c N h0 i, arrV_store]
    refine congrArg (arrV c N) (funext fun j => ?_)
    by_cases e : j = i
    · subst e
      simp [updV, va_rf]
    · by_cases h : j < i
      · simp [updV, e, h, Nat.lt_succ_of_lt h]
      · simp [updV, e, h, show ¬ j < i + 1 by omega]
section VGM
variable {p : Program} {l : Launch} {e : Env} {R : Room} {s : State} {m : MethodId} {args : Array Value} {below : List Frame} {meth : Method} {c : Code} {H : Heap} {locs : List Loc} {cells slots : Nat} {Q : State → Prop}
variable {cc : ByteArray} {pc : Nat} {ls : Array Slot} {rest : List Value} {D : va_G} {cl : List vw_C} {A : Nat → Prop} {a : Nat} {tys : List (ClassId × FieldType)} {ws : va_W} {H0 : Heap}
theorem va_mna {X : va_W} {L : List Nat} {f : Nat → va_E} {cc : ByteArray} (hexec : p.tables.exec = Jvm.exec) (hb : c.code = cc) {own : String} {index : Nat} {ty : FieldType} {cy : ClassId} (hown : s.vm.findClass own = some m.cls) (hclink : (Cond.classLink own index ("[" ++ (FieldType.array ty).toString)).before args s = true) (hover : va_AOA ty s) (harr : (Cond.arrayClass ty).before args s = true) (hcy : s.vm.findClass (FieldType.array ty).toString = some cy)
    (hK : va_K D cl tys s) (hP : va_P D cl (X ++ va_pl L f) H) (hD : va_D A (X ++ va_pl L f)) (hS : va_S A H0 H locs) (hA : ∀ q, H0.size ≤ q → A q) {n k : Int32} {N' K' : Nat} {z : vp_A} (hn : ¬ n < 0) (hk : ¬ k < 0) (hN : n.toNatClampNeg = N') (hM : k.toNatClampNeg = K')
    (hb1 : N' * 4 ≤ 536870912) (hb2 : K' * componentBytes ty ≤ 536870912) (hb3 : K' ≤ 536870912) (hdf : fits ty (defaultValue ty) = true) (hdd : (defaultValue ty).isDefault = true) (hcells : cells + (1 + N') ≤ R.cells) (hslots : slots + (N' + N' * K') ≤ R.slots) (hz : ∀ c : ClassId, Jvm.Free.Multi.innerC c K' (defaultValue ty) = vp_cell c z) (hdg : decode cc pc = .ok (.multianewarray index 2, 4))
    (kk : ∀ (q : Nat) (r : Nat → Nat) (cA : ClassId) (H1 : Heap), (∀ i j : Nat, i < N' → j < N' → r i = r j → i = j) → (∀ i : Nat, i < N' → r i ∉ L) → va_K D cl (tys ++ [(cA, .array ty)]) s →
      va_P D cl ((X ++ [(q, .inl (cA, N', .inr (.inr (.inr (.inr (fun i => if i < N' then some (r i) else none))))))]) ++ va_pl (L ++ (List.range N').map r) (vr_up f ((List.range N').map r) (.inl (cy, z)))) H1 → va_D A ((X ++ [(q, .inl (cA, N', .inr (.inr (.inr (.inr (fun i => if i < N' then some (r i) else none))))))]) ++ va_pl (L ++ (List.range N').map r) (vr_up f ((List.range N').map r) (.inl (cy, z)))) → va_S A H0 H1 locs →
      W p l e R s m args below meth c H1 locs (cells + 1 + N') (slots + N' + N' * K') Q (F0 m (pc + 4) ls (.ref q :: rest))) : W p l e R s m args below meth c H locs cells slots Q (F0 m pc ls (.int k :: .int n :: rest)) := by
  subst hN
  subst hM
  intro T hT Xs
  obtain ⟨vm₁, cA, comp, -, fA, fC, hO, -, X', step⟩ := Xs.multianewarray2F hexec hown hclink (va_AOA.use hover) harr (g := F0 m pc ls (.int k :: .int n :: rest)) rfl (by rw [hb]; exact hdg) rfl hn hk hb1 hb2 hb3 hdf hdd hcells hslots
  have ec : some cy = some comp := hcy.symm.trans fC
  cases ec
  generalize hF : Jvm.Free.Multi.fill (T.setVm vm₁) cA cy n.toNatClampNeg k.toNatClampNeg (defaultValue ty) n.toNatClampNeg = F at X' step
  have hTh : (T.setVm vm₁).heap = H := hT
  obtain ⟨f1, f2, -, -⟩ := Jvm.Free.Multi.fill_facts (T.setVm vm₁) cA cy n.toNatClampNeg k.toNatClampNeg (defaultValue ty) n.toNatClampNeg
  rw [hF, hTh] at f1 f2
  have hold : ∀ x : Nat, x < H.size → F.heap[x]? = H[x]? := fun x hx => by
    have := Jvm.Free.Multi.fill_old (T.setVm vm₁) cA cy n.toNatClampNeg k.toNatClampNeg (defaultValue ty) (a := x) (by rw [hTh]; exact hx) n.toNatClampNeg
    rw [hF, hTh] at this
    exact this
  have hrow : ∀ j : Nat, j < n.toNatClampNeg → F.heap[H.size + 1 + j]? = some (vp_cell cy z) := fun j hj => by
    have := Jvm.Free.Multi.fill_inner (T.setVm vm₁) cA cy n.toNatClampNeg k.toNatClampNeg (defaultValue ty) n.toNatClampNeg j hj
    rw [hF, hTh, hz] at this
    exact this
  have hout : Jvm.Free.Multi.outerC cA n.toNatClampNeg H.size n.toNatClampNeg = vp_cell cA (n.toNatClampNeg, .inr (.inr (.inr (.inr (fun i => if i < n.toNatClampNeg then some (H.size + 1 + i) else none))))) := by
    rw [vp_cell_q]
    exact vr_outer cA n.toNatClampNeg H.size n.toNatClampNeg
  rw [hout] at f2
  have hlt : ∀ a, a ∈ L → a < H.size := fun a ha => by
    obtain ⟨k9, hk9⟩ := va_pl_get (X := X) (f := f) ha
    exact (hP k9 _ hk9).lt
  have hnl : ∀ i : Nat, i < n.toNatClampNeg → H.size + 1 + i ∉ L := fun i _ h => by
    have := hlt _ h
    omega
  have hnm : ∀ a, a ∈ (List.range n.toNatClampNeg).map (fun i => H.size + 1 + i) → a ∉ L := fun a ha h => by
    obtain ⟨i, -, rfl⟩ := List.mem_map.mp ha
    have := hlt _ h
    omega
  have hP0 : va_P D cl (X ++ va_pl L f) F.heap := hP.kept (fun k9 x hx => hold x.1 ((hP k9 x hx).lt))
  have hP1 : va_P D cl ((X ++ va_pl L f) ++ [(H.size, .inl (cA, n.toNatClampNeg, .inr (.inr (.inr (.inr (fun i => if i < n.toNatClampNeg then some (H.size + 1 + i) else none))))))]) F.heap := hP0.app (fun k9 x hx => by
    have h0 : k9 < 1 := (List.getElem?_eq_some_iff.mp hx).1
    rw [show k9 = 0 by omega] at hx
    cases hx
    exact f2)
  have hP2 : va_P D cl (((X ++ va_pl L f) ++ [(H.size, .inl (cA, n.toNatClampNeg, .inr (.inr (.inr (.inr (fun i => if i < n.toNatClampNeg then some (H.size + 1 + i) else none))))))]) ++ ((List.range n.toNatClampNeg).map (fun i => H.size + 1 + i)).map (fun a => (a, .inl (cy, z)))) F.heap := hP1.app (fun k9 x hx => by
    obtain ⟨a, ha, rfl⟩ := List.mem_map.mp (List.mem_of_getElem? hx)
    obtain ⟨i, hi, rfl⟩ := List.mem_map.mp ha
    exact hrow i (List.mem_range.mp hi))
  have hD2 : va_D A (((X ++ va_pl L f) ++ [(H.size, .inl (cA, n.toNatClampNeg, .inr (.inr (.inr (.inr (fun i => if i < n.toNatClampNeg then some (H.size + 1 + i) else none))))))]) ++ ((List.range n.toNatClampNeg).map (fun i => H.size + 1 + i)).map (fun a => (a, .inl (cy, z)))) := by
    have hD1 := hD.push (e := .inl (cA, n.toNatClampNeg, .inr (.inr (.inr (.inr (fun i => if i < n.toNatClampNeg then some (H.size + 1 + i) else none)))))) hP rfl (hA _ hS.1)
    generalize hW1 : (X ++ va_pl L f) ++ [(H.size, .inl (cA, n.toNatClampNeg, .inr (.inr (.inr (.inr (fun i => if i < n.toNatClampNeg then some (H.size + 1 + i) else none))))))] = W1 at hD1 hP1 ⊢
    have hle : ∀ (k9 : Nat) (x : Nat × va_E), W1[k9]? = some x → x.1 ≤ H.size := fun k9 x hx => by
      rw [← hW1] at hx
      by_cases hl : k9 < (X ++ va_pl L f).length
      · rw [List.getElem?_append_left hl] at hx
        exact Nat.le_of_lt ((hP k9 x hx).lt)
      · rw [List.getElem?_append_right (by omega)] at hx
        have h0 : k9 - (X ++ va_pl L f).length < 1 := (List.getElem?_eq_some_iff.mp hx).1
        rw [show k9 - (X ++ va_pl L f).length = 0 by omega] at hx
        cases hx
        exact Nat.le_refl _
    have hr : ∀ (k9 : Nat) (x : Nat × va_E), (((List.range n.toNatClampNeg).map (fun i => H.size + 1 + i)).map (fun a => ((a, .inl (cy, z)) : Nat × va_E)))[k9]? = some x → x.1 = H.size + 1 + k9 := fun k9 x hx => by
      rw [List.getElem?_map, List.getElem?_map] at hx
      by_cases h9 : k9 < n.toNatClampNeg
      · rw [List.getElem?_range h9] at hx
        cases hx
        rfl
      · have hn0 : (List.range n.toNatClampNeg)[k9]? = none := List.getElem?_eq_none (by rw [List.length_range]; omega)
        rw [hn0] at hx
        cases hx
    refine ⟨fun i j x y hi hj hxy => ?_, fun k9 x hx => ?_⟩
    · by_cases h1 : i < W1.length <;> by_cases h2 : j < W1.length
      · rw [List.getElem?_append_left h1] at hi
        rw [List.getElem?_append_left h2] at hj
        exact hD1.1 i j x y hi hj hxy
      · rw [List.getElem?_append_left h1] at hi
        rw [List.getElem?_append_right (by omega)] at hj
        have := hle _ _ hi
        have := hr _ _ hj
        omega
      · rw [List.getElem?_append_right (by omega)] at hi
        rw [List.getElem?_append_left h2] at hj
        have := hle _ _ hj
        have := hr _ _ hi
        omega
      · rw [List.getElem?_append_right (by omega)] at hi hj
        have := hr _ _ hi
        have := hr _ _ hj
        omega
    · by_cases h1 : k9 < W1.length
      · rw [List.getElem?_append_left h1] at hx
        exact hD1.2 k9 x hx
      · rw [List.getElem?_append_right (by omega)] at hx
        have := hr _ _ hx
        exact hA _ (by have := hS.1; omega)
  have hAr : ArrOfT s cA (.array ty) := fun N9 z9 => by
    obtain ⟨-, k9, hk9, cm9, hkk9⟩ := (hO 0 0 0).1
    exact ⟨(fun q hq => by cases hq), k9, hk9, cm9, hkk9⟩
  have hK2 : va_K D cl (tys ++ [(cA, .array ty)]) s := ⟨hK.1, fun k9 x hx => by
    by_cases hl : k9 < tys.length
    · rw [List.getElem?_append_left hl] at hx
      exact hK.2 k9 x hx
    · rw [List.getElem?_append_right (by omega)] at hx
      have h0 : k9 - tys.length < 1 := (List.getElem?_eq_some_iff.mp hx).1
      rw [show k9 - tys.length = 0 by omega] at hx
      cases hx
      exact ⟨hAr, fA⟩⟩
  obtain ⟨t, a1, b1⟩ := kk H.size (fun i => H.size + 1 + i) cA F.heap (fun i j _ _ h => by have h9 : H.size + 1 + i = H.size + 1 + j := h; omega) hnl hK2 (by rw [← vr_rows hnm]; exact vr_lay hP2) (by rw [← vr_rows hnm]; exact vr_layD hD2) ⟨by rw [f1]; have := hS.1; omega, fun x h1 h2 => (hold x (Nat.lt_of_lt_of_le h1 hS.1)).trans (hS.2.1 x h1 h2), hS.2.2⟩ F rfl X'
  refine ⟨t, step t ?_, b1⟩
  have e : T.heap.size = H.size := by rw [hT]
  rw [e]
  exact a1
end VGM
/-! ===== END ===== -/
def RX0 : String := "SilkRise$Air"
def TX0 : u_T := fun k => match k with
  | 0 => ("SilkRise$Air", "plan", "LSilkRise$Plan;", true)
  | 1 => ("SilkRise$Air", "sky", "LSilkRise$Sky;", true)
  | _ => ("SilkRise$Air", "handsFull", "[I", true)
def tyX0 : Nat → FieldType := fun k => match k with
  | 0 => .object "SilkRise$Plan"
  | 1 => .object "SilkRise$Sky"
  | _ => .array .int
abbrev wsX00 : List Cond := u_ws RX0 TX0 3
theorem nmX0 : ∀ a, a < 3 → ∀ b, b < 3 → a ≠ b → (TX0 a).2.1 ≠ (TX0 b).2.1 := by decide +kernel
theorem tyX0_ok : ∀ k, k < 3 → parseFieldDescriptor (TX0 k).2.2.1 = some (tyX0 k) := by decide +kernel
theorem zin_0 : ∀ w ∈ u_ws RX0 TX0 3, w ∈ lw_tbl := by decide +kernel
def RX1 : String := "SilkRise$Course"
def TX1 : u_T := fun k => match k with
  | 0 => ("SilkRise$Course", "plan", "LSilkRise$Plan;", true)
  | 1 => ("SilkRise$Course", "now", "LSilkRise$State;", true)
  | 2 => ("SilkRise$Course", "sky", "LSilkRise$Sky;", true)
  | 3 => ("SilkRise$Course", "hours", "I", false)
  | 4 => ("SilkRise$Course", "end", "I", false)
  | 5 => ("SilkRise$Course", "hook", "I", false)
  | 6 => ("SilkRise$Course", "x", "I", false)
  | _ => ("SilkRise$Course", "earned", "I", false)
def tyX1 : Nat → FieldType := fun k => match k with
  | 0 => .object "SilkRise$Plan"
  | 1 => .object "SilkRise$State"
  | 2 => .object "SilkRise$Sky"
  | 3 => .int
  | 4 => .int
  | 5 => .int
  | 6 => .int
  | _ => .int
abbrev wsX10 : List Cond := u_ws RX1 TX1 8
theorem nmX1 : ∀ a, a < 8 → ∀ b, b < 8 → a ≠ b → (TX1 a).2.1 ≠ (TX1 b).2.1 := by decide +kernel
theorem tyX1_ok : ∀ k, k < 8 → parseFieldDescriptor (TX1 k).2.2.1 = some (tyX1 k) := by decide +kernel
theorem zin_1 : ∀ w ∈ u_ws RX1 TX1 8, w ∈ lw_tbl := by decide +kernel
def RX2 : String := "SilkRise$Filling"
def TX2 : u_T := fun k => match k with
  | 0 => ("SilkRise$Filling", "now", "LSilkRise$State;", true)
  | 1 => ("SilkRise$Filling", "sky", "LSilkRise$Sky;", true)
  | 2 => ("SilkRise$Filling", "course", "LSilkRise$Course;", true)
  | 3 => ("SilkRise$Filling", "gains", "[[I", true)
  | 4 => ("SilkRise$Filling", "best", "[[I", true)
  | _ => ("SilkRise$Filling", "hooks", "[I", true)
def tyX2 : Nat → FieldType := fun k => match k with
  | 0 => .object "SilkRise$State"
  | 1 => .object "SilkRise$Sky"
  | 2 => .object "SilkRise$Course"
  | 3 => .array (.array .int)
  | 4 => .array (.array .int)
  | _ => .array .int
abbrev wsX20 : List Cond := u_ws RX2 TX2 6
theorem nmX2 : ∀ a, a < 6 → ∀ b, b < 6 → a ≠ b → (TX2 a).2.1 ≠ (TX2 b).2.1 := by decide +kernel
theorem tyX2_ok : ∀ k, k < 6 → parseFieldDescriptor (TX2 k).2.2.1 = some (tyX2 k) := by decide +kernel
theorem zin_2 : ∀ w ∈ u_ws RX2 TX2 6, w ∈ lw_tbl := by decide +kernel
def RX3 : String := "SilkRise$Laws"
def TX3 : u_T := fun k => match k with
  | 0 => ("SilkRise$Laws", "cells", "[I", true)
  | 1 => ("SilkRise$Laws", "starts", "[I", true)
  | _ => ("SilkRise$Laws", "used", "I", false)
def tyX3 : Nat → FieldType := fun k => match k with
  | 0 => .array .int
  | 1 => .array .int
  | _ => .int
abbrev wsX30 : List Cond := u_ws RX3 TX3 3
theorem nmX3 : ∀ a, a < 3 → ∀ b, b < 3 → a ≠ b → (TX3 a).2.1 ≠ (TX3 b).2.1 := by decide +kernel
theorem tyX3_ok : ∀ k, k < 3 → parseFieldDescriptor (TX3 k).2.2.1 = some (tyX3 k) := by decide +kernel
theorem zin_3 : ∀ w ∈ u_ws RX3 TX3 3, w ∈ lw_tbl := by decide +kernel
def RX4 : String := "SilkRise$Past"
def TX4 : u_T := fun k => match k with
  | 0 => ("SilkRise$Past", "done", "[LSilkRise$State;", true)
  | 1 => ("SilkRise$Past", "next", "I", false)
  | 2 => ("SilkRise$Past", "depth", "I", false)
  | 3 => ("SilkRise$Past", "slots", "[LSilkRise$State;", true)
  | _ => ("SilkRise$Past", "heldSlots", "I", false)
def tyX4 : Nat → FieldType := fun k => match k with
  | 0 => .array (.object "SilkRise$State")
  | 1 => .int
  | 2 => .int
  | 3 => .array (.object "SilkRise$State")
  | _ => .int
abbrev wsX40 : List Cond := u_ws RX4 TX4 5
theorem nmX4 : ∀ a, a < 5 → ∀ b, b < 5 → a ≠ b → (TX4 a).2.1 ≠ (TX4 b).2.1 := by decide +kernel
theorem tyX4_ok : ∀ k, k < 5 → parseFieldDescriptor (TX4 k).2.2.1 = some (tyX4 k) := by decide +kernel
theorem zin_4 : ∀ w ∈ u_ws RX4 TX4 5, w ∈ lw_tbl := by decide +kernel
def RX5 : String := "SilkRise$Plan"
def TX5 : u_T := fun k => match k with
  | 0 => ("SilkRise$Plan", "start", "LSilkRise$State;", true)
  | 1 => ("SilkRise$Plan", "laws", "LSilkRise$Laws;", true)
  | 2 => ("SilkRise$Plan", "rim", "I", false)
  | 3 => ("SilkRise$Plan", "gusts", "I", false)
  | _ => ("SilkRise$Plan", "seed", "I", false)
def tyX5 : Nat → FieldType := fun k => match k with
  | 0 => .object "SilkRise$State"
  | 1 => .object "SilkRise$Laws"
  | 2 => .int
  | 3 => .int
  | _ => .int
abbrev wsX50 : List Cond := u_ws RX5 TX5 5
theorem nmX5 : ∀ a, a < 5 → ∀ b, b < 5 → a ≠ b → (TX5 a).2.1 ≠ (TX5 b).2.1 := by decide +kernel
theorem tyX5_ok : ∀ k, k < 5 → parseFieldDescriptor (TX5 k).2.2.1 = some (tyX5 k) := by decide +kernel
theorem zin_5 : ∀ w ∈ u_ws RX5 TX5 5, w ∈ lw_tbl := by decide +kernel
def RX6 : String := "SilkRise$Reader"
def TX6 : u_T := fun k => match k with
  | 0 => ("SilkRise$Reader", "tokens", "LSilkRise$Tokens;", true)
  | 1 => ("SilkRise$Reader", "draft", "LSilkRise$Plan;", true)
  | 2 => ("SilkRise$Reader", "names", "[J", true)
  | 3 => ("SilkRise$Reader", "named", "I", false)
  | 4 => ("SilkRise$Reader", "taken", "I", false)
  | 5 => ("SilkRise$Reader", "kind", "I", false)
  | 6 => ("SilkRise$Reader", "fault", "I", false)
  | 7 => ("SilkRise$Reader", "faultPlace", "I", false)
  | 8 => ("SilkRise$Reader", "lateFault", "I", false)
  | _ => ("SilkRise$Reader", "latePlace", "I", false)
def tyX6 : Nat → FieldType := fun k => match k with
  | 0 => .object "SilkRise$Tokens"
  | 1 => .object "SilkRise$Plan"
  | 2 => .array .long
  | 3 => .int
  | 4 => .int
  | 5 => .int
  | 6 => .int
  | 7 => .int
  | 8 => .int
  | _ => .int
abbrev wsX60 : List Cond := u_ws RX6 TX6 10
theorem nmX6 : ∀ a, a < 10 → ∀ b, b < 10 → a ≠ b → (TX6 a).2.1 ≠ (TX6 b).2.1 := by decide +kernel
theorem tyX6_ok : ∀ k, k < 10 → parseFieldDescriptor (TX6 k).2.2.1 = some (tyX6 k) := by decide +kernel
theorem zin_6 : ∀ w ∈ u_ws RX6 TX6 10, w ∈ lw_tbl := by decide +kernel
def RX7 : String := "SilkRise$Sky"
def TX7 : u_T := fun k => match k with
  | 0 => ("SilkRise$Sky", "laws", "LSilkRise$Laws;", true)
  | 1 => ("SilkRise$Sky", "vars", "[I", true)
  | _ => ("SilkRise$Sky", "stack", "[I", true)
def tyX7 : Nat → FieldType := fun k => match k with
  | 0 => .object "SilkRise$Laws"
  | 1 => .array .int
  | _ => .array .int
abbrev wsX70 : List Cond := u_ws RX7 TX7 3
theorem nmX7 : ∀ a, a < 3 → ∀ b, b < 3 → a ≠ b → (TX7 a).2.1 ≠ (TX7 b).2.1 := by decide +kernel
theorem tyX7_ok : ∀ k, k < 3 → parseFieldDescriptor (TX7 k).2.2.1 = some (tyX7 k) := by decide +kernel
theorem zin_7 : ∀ w ∈ u_ws RX7 TX7 3, w ∈ lw_tbl := by decide +kernel
def RX8 : String := "SilkRise$State"
def TX8 : u_T := fun k => match k with
  | 0 => ("SilkRise$State", "loads", "LSilkRise$Things;", true)
  | 1 => ("SilkRise$State", "silks", "LSilkRise$Things;", true)
  | 2 => ("SilkRise$State", "hooks", "LSilkRise$Things;", true)
  | 3 => ("SilkRise$State", "hour", "I", false)
  | 4 => ("SilkRise$State", "earned", "I", false)
  | _ => ("SilkRise$State", "paid", "I", false)
def tyX8 : Nat → FieldType := fun k => match k with
  | 0 => .object "SilkRise$Things"
  | 1 => .object "SilkRise$Things"
  | 2 => .object "SilkRise$Things"
  | 3 => .int
  | 4 => .int
  | _ => .int
abbrev wsX80 : List Cond := u_ws RX8 TX8 6
theorem nmX8 : ∀ a, a < 6 → ∀ b, b < 6 → a ≠ b → (TX8 a).2.1 ≠ (TX8 b).2.1 := by decide +kernel
theorem tyX8_ok : ∀ k, k < 6 → parseFieldDescriptor (TX8 k).2.2.1 = some (tyX8 k) := by decide +kernel
theorem zin_8 : ∀ w ∈ u_ws RX8 TX8 6, w ∈ lw_tbl := by decide +kernel
def RX9 : String := "SilkRise$Things"
def TX9 : u_T := fun k => match k with
  | 0 => ("SilkRise$Things", "most", "I", true)
  | 1 => ("SilkRise$Things", "width", "I", true)
  | 2 => ("SilkRise$Things", "cells", "[I", true)
  | _ => ("SilkRise$Things", "size", "I", false)
def tyX9 : Nat → FieldType := fun k => match k with
  | 0 => .int
  | 1 => .int
  | 2 => .array .int
  | _ => .int
abbrev wsX90 : List Cond := u_ws RX9 TX9 4
theorem nmX9 : ∀ a, a < 4 → ∀ b, b < 4 → a ≠ b → (TX9 a).2.1 ≠ (TX9 b).2.1 := by decide +kernel
theorem tyX9_ok : ∀ k, k < 4 → parseFieldDescriptor (TX9 k).2.2.1 = some (tyX9 k) := by decide +kernel
theorem zin_9 : ∀ w ∈ u_ws RX9 TX9 4, w ∈ lw_tbl := by decide +kernel
def RX10 : String := "SilkRise$Tokens"
def TX10 : u_T := fun k => match k with
  | 0 => ("SilkRise$Tokens", "words", "[J", true)
  | 1 => ("SilkRise$Tokens", "kinds", "[I", true)
  | 2 => ("SilkRise$Tokens", "places", "[I", true)
  | 3 => ("SilkRise$Tokens", "values", "[J", true)
  | 4 => ("SilkRise$Tokens", "size", "I", false)
  | 5 => ("SilkRise$Tokens", "tape", "[B", false)
  | 6 => ("SilkRise$Tokens", "tapeSize", "I", false)
  | _ => ("SilkRise$Tokens", "next", "I", false)
def tyX10 : Nat → FieldType := fun k => match k with
  | 0 => .array .long
  | 1 => .array .int
  | 2 => .array .int
  | 3 => .array .long
  | 4 => .int
  | 5 => .array .byte
  | 6 => .int
  | _ => .int
abbrev wsX100 : List Cond := u_ws RX10 TX10 8
theorem nmX10 : ∀ a, a < 8 → ∀ b, b < 8 → a ≠ b → (TX10 a).2.1 ≠ (TX10 b).2.1 := by decide +kernel
theorem tyX10_ok : ∀ k, k < 8 → parseFieldDescriptor (TX10 k).2.2.1 = some (tyX10 k) := by decide +kernel
theorem zin_10 : ∀ w ∈ u_ws RX10 TX10 8, w ∈ lw_tbl := by decide +kernel
def RX11 : String := "SilkRise"
def TX11 : u_T := fun k => match k with
  | 0 => ("SilkRise", "tape", "[B", true)
  | 1 => ("SilkRise", "tapeSize", "I", false)
  | 2 => ("SilkRise", "faultPlace", "I", false)
  | 3 => ("SilkRise", "plan", "LSilkRise$Plan;", true)
  | 4 => ("SilkRise", "draft", "LSilkRise$Plan;", true)
  | 5 => ("SilkRise", "reader", "LSilkRise$Reader;", true)
  | 6 => ("SilkRise", "now", "LSilkRise$State;", true)
  | 7 => ("SilkRise", "trial", "LSilkRise$State;", true)
  | 8 => ("SilkRise", "sky", "LSilkRise$Sky;", true)
  | 9 => ("SilkRise", "air", "LSilkRise$Air;", true)
  | 10 => ("SilkRise", "course", "LSilkRise$Course;", true)
  | 11 => ("SilkRise", "filling", "LSilkRise$Filling;", true)
  | 12 => ("SilkRise", "past", "LSilkRise$Past;", true)
  | _ => ("SilkRise", "told", "LSilkRise$Things;", true)
def tyX11 : Nat → FieldType := fun k => match k with
  | 0 => .array .byte
  | 1 => .int
  | 2 => .int
  | 3 => .object "SilkRise$Plan"
  | 4 => .object "SilkRise$Plan"
  | 5 => .object "SilkRise$Reader"
  | 6 => .object "SilkRise$State"
  | 7 => .object "SilkRise$State"
  | 8 => .object "SilkRise$Sky"
  | 9 => .object "SilkRise$Air"
  | 10 => .object "SilkRise$Course"
  | 11 => .object "SilkRise$Filling"
  | 12 => .object "SilkRise$Past"
  | _ => .object "SilkRise$Things"
abbrev wsX110 : List Cond := u_ws RX11 TX11 14
theorem nmX11 : ∀ a, a < 14 → ∀ b, b < 14 → a ≠ b → (TX11 a).2.1 ≠ (TX11 b).2.1 := by decide +kernel
theorem tyX11_ok : ∀ k, k < 14 → parseFieldDescriptor (TX11 k).2.2.1 = some (tyX11 k) := by decide +kernel
theorem zin_11 : ∀ w ∈ u_ws RX11 TX11 14, w ∈ lw_tbl := by decide +kernel
def RX12 : String := "SilkRiseModel"
def TX12 : u_T := fun k => match k with
  | 0 => ("SilkRiseModel", "thrown", "I", false)
  | 1 => ("SilkRiseModel", "tape", "[B", true)
  | 2 => ("SilkRiseModel", "taped", "I", false)
  | 3 => ("SilkRiseModel", "text", "[B", true)
  | 4 => ("SilkRiseModel", "size", "I", false)
  | 5 => ("SilkRiseModel", "tKind", "[I", true)
  | 6 => ("SilkRiseModel", "tPlace", "[I", true)
  | 7 => ("SilkRiseModel", "tValue", "[I", true)
  | 8 => ("SilkRiseModel", "tName", "[J", true)
  | 9 => ("SilkRiseModel", "keys", "[J", true)
  | 10 => ("SilkRiseModel", "tokens", "I", false)
  | 11 => ("SilkRiseModel", "t", "I", false)
  | 12 => ("SilkRiseModel", "open", "I", false)
  | 13 => ("SilkRiseModel", "fault", "I", false)
  | 14 => ("SilkRiseModel", "faultPlace", "I", false)
  | 15 => ("SilkRiseModel", "worst", "I", false)
  | 16 => ("SilkRiseModel", "worstPlace", "I", false)
  | 17 => ("SilkRiseModel", "place", "I", false)
  | 18 => ("SilkRiseModel", "live", "I", false)
  | 19 => ("SilkRiseModel", "side", "I", false)
  | 20 => ("SilkRiseModel", "names", "I", false)
  | 21 => ("SilkRiseModel", "nameOf", "[J", true)
  | 22 => ("SilkRiseModel", "loads", "[I", true)
  | 23 => ("SilkRiseModel", "xTold", "[I", true)
  | 24 => ("SilkRiseModel", "weightOf", "[I", true)
  | 25 => ("SilkRiseModel", "priceOf", "[I", true)
  | 26 => ("SilkRiseModel", "silks", "[I", true)
  | 27 => ("SilkRiseModel", "sizeOf", "[I", true)
  | 28 => ("SilkRiseModel", "pullTold", "[I", true)
  | 29 => ("SilkRiseModel", "hooks", "[I", true)
  | 30 => ("SilkRiseModel", "hookTold", "[I", true)
  | 31 => ("SilkRiseModel", "reachOf", "[I", true)
  | 32 => ("SilkRiseModel", "handsOf", "[I", true)
  | 33 => ("SilkRiseModel", "rim", "[I", true)
  | 34 => ("SilkRiseModel", "gusts", "[I", true)
  | 35 => ("SilkRiseModel", "seed", "[I", true)
  | 36 => ("SilkRiseModel", "lawFirst", "[I", true)
  | 37 => ("SilkRiseModel", "lawLast", "[I", true)
  | 38 => ("SilkRiseModel", "branches", "I", false)
  | 39 => ("SilkRiseModel", "hasTest", "[Z", true)
  | 40 => ("SilkRiseModel", "testFrom", "[I", true)
  | 41 => ("SilkRiseModel", "testMid", "[I", true)
  | 42 => ("SilkRiseModel", "testTo", "[I", true)
  | 43 => ("SilkRiseModel", "termTo", "[I", true)
  | 44 => ("SilkRiseModel", "codes", "I", false)
  | 45 => ("SilkRiseModel", "code", "[I", true)
  | 46 => ("SilkRiseModel", "codeInt", "[I", true)
  | 47 => ("SilkRiseModel", "waits", "[I", true)
  | 48 => ("SilkRiseModel", "waiting", "I", false)
  | 49 => ("SilkRiseModel", "variables", "[I", true)
  | 50 => ("SilkRiseModel", "pile", "[I", true)
  | 51 => ("SilkRiseModel", "isBroken", "Z", false)
  | 52 => ("SilkRiseModel", "now", "[I", true)
  | 53 => ("SilkRiseModel", "row", "[I", true)
  | 54 => ("SilkRiseModel", "lots", "I", false)
  | 55 => ("SilkRiseModel", "hookedNow", "[I", true)
  | 56 => ("SilkRiseModel", "highThen", "[I", true)
  | 57 => ("SilkRiseModel", "xThen", "[I", true)
  | 58 => ("SilkRiseModel", "paysNow", "[I", true)
  | 59 => ("SilkRiseModel", "undos", "I", false)
  | 60 => ("SilkRiseModel", "history", "[I", true)
  | 61 => ("SilkRiseModel", "flightHours", "I", false)
  | 62 => ("SilkRiseModel", "flightHow", "I", false)
  | 63 => ("SilkRiseModel", "flightHook", "I", false)
  | 64 => ("SilkRiseModel", "flightX", "I", false)
  | 65 => ("SilkRiseModel", "flightHigh", "I", false)
  | 66 => ("SilkRiseModel", "flightPays", "I", false)
  | 67 => ("SilkRiseModel", "footLoads", "[I", true)
  | 68 => ("SilkRiseModel", "atFoot", "I", false)
  | 69 => ("SilkRiseModel", "bringsBy", "[I", true)
  | 70 => ("SilkRiseModel", "canBe", "[Z", true)
  | 71 => ("SilkRiseModel", "fillMost", "I", false)
  | 72 => ("SilkRiseModel", "fillWay", "I", false)
  | 73 => ("SilkRiseModel", "needOf", "[I", true)
  | 74 => ("SilkRiseModel", "tolds", "I", false)
  | 75 => ("SilkRiseModel", "toldSize", "[I", true)
  | 76 => ("SilkRiseModel", "toldWeight", "[I", true)
  | 77 => ("SilkRiseModel", "toldX", "[I", true)
  | 78 => ("SilkRiseModel", "toldHours", "[I", true)
  | 79 => ("SilkRiseModel", "toldAt", "[I", true)
  | 80 => ("SilkRiseModel", "isHeld", "[Z", true)
  | _ => ("SilkRiseModel", "heldRows", "[I", true)
def tyX12 : Nat → FieldType := fun k => match k with
  | 0 => .int
  | 1 => .array .byte
  | 2 => .int
  | 3 => .array .byte
  | 4 => .int
  | 5 => .array .int
  | 6 => .array .int
  | 7 => .array .int
  | 8 => .array .long
  | 9 => .array .long
  | 10 => .int
  | 11 => .int
  | 12 => .int
  | 13 => .int
  | 14 => .int
  | 15 => .int
  | 16 => .int
  | 17 => .int
  | 18 => .int
  | 19 => .int
  | 20 => .int
  | 21 => .array .long
  | 22 => .array .int
  | 23 => .array .int
  | 24 => .array .int
  | 25 => .array .int
  | 26 => .array .int
  | 27 => .array .int
  | 28 => .array .int
  | 29 => .array .int
  | 30 => .array .int
  | 31 => .array .int
  | 32 => .array .int
  | 33 => .array .int
  | 34 => .array .int
  | 35 => .array .int
  | 36 => .array .int
  | 37 => .array .int
  | 38 => .int
  | 39 => .array .boolean
  | 40 => .array .int
  | 41 => .array .int
  | 42 => .array .int
  | 43 => .array .int
  | 44 => .int
  | 45 => .array .int
  | 46 => .array .int
  | 47 => .array .int
  | 48 => .int
  | 49 => .array .int
  | 50 => .array .int
  | 51 => .boolean
  | 52 => .array .int
  | 53 => .array .int
  | 54 => .int
  | 55 => .array .int
  | 56 => .array .int
  | 57 => .array .int
  | 58 => .array .int
  | 59 => .int
  | 60 => .array .int
  | 61 => .int
  | 62 => .int
  | 63 => .int
  | 64 => .int
  | 65 => .int
  | 66 => .int
  | 67 => .array .int
  | 68 => .int
  | 69 => .array .int
  | 70 => .array .boolean
  | 71 => .int
  | 72 => .int
  | 73 => .array .int
  | 74 => .int
  | 75 => .array .int
  | 76 => .array .int
  | 77 => .array .int
  | 78 => .array .int
  | 79 => .array .int
  | 80 => .array .boolean
  | _ => .array .int
abbrev wsX120 : List Cond := u_ws RX12 TX12 82
theorem nmX12 : ∀ a, a < 82 → ∀ b, b < 82 → a ≠ b → (TX12 a).2.1 ≠ (TX12 b).2.1 := by decide +kernel
theorem tyX12_ok : ∀ k, k < 82 → parseFieldDescriptor (TX12 k).2.2.1 = some (tyX12 k) := by decide +kernel
theorem zin_12 : ∀ w ∈ u_ws RX12 TX12 82, w ∈ lw_tbl := by decide +kernel
def zCl : List vw_C := [(RX0, TX0, 3), (RX1, TX1, 8), (RX2, TX2, 6), (RX3, TX3, 3), (RX4, TX4, 5), (RX5, TX5, 5), (RX6, TX6, 10), (RX7, TX7, 3), (RX8, TX8, 6), (RX9, TX9, 4), (RX10, TX10, 8), (RX11, TX11, 14), (RX12, TX12, 82)]
def zTy (ci : Nat) : Nat → FieldType := match ci with
  | 0 => tyX0
  | 1 => tyX1
  | 2 => tyX2
  | 3 => tyX3
  | 4 => tyX4
  | 5 => tyX5
  | 6 => tyX6
  | 7 => tyX7
  | 8 => tyX8
  | 9 => tyX9
  | 10 => tyX10
  | 11 => tyX11
  | 12 => tyX12
  | _ => fun _ => .int
def zN (ci : Nat) : Nat := [3, 8, 6, 3, 5, 5, 10, 3, 6, 4, 8, 14, 82].getD ci 0
theorem zcl_ok : ∀ (ci : Nat) (q : vw_C), zCl[ci]? = some q → (∀ w ∈ u_ws q.1 q.2.1 q.2.2, w ∈ lw_tbl) ∧ (∀ k, k < q.2.2 → parseFieldDescriptor (q.2.1 k).2.2.1 = some (zTy ci k)) ∧ (∀ a, a < q.2.2 → ∀ b, b < q.2.2 → a ≠ b → (q.2.1 a).2.1 ≠ (q.2.1 b).2.1) ∧ zN ci = q.2.2
  | 0, _, h => by cases h; exact ⟨zin_0, tyX0_ok, nmX0, rfl⟩
  | 1, _, h => by cases h; exact ⟨zin_1, tyX1_ok, nmX1, rfl⟩
  | 2, _, h => by cases h; exact ⟨zin_2, tyX2_ok, nmX2, rfl⟩
  | 3, _, h => by cases h; exact ⟨zin_3, tyX3_ok, nmX3, rfl⟩
  | 4, _, h => by cases h; exact ⟨zin_4, tyX4_ok, nmX4, rfl⟩
  | 5, _, h => by cases h; exact ⟨zin_5, tyX5_ok, nmX5, rfl⟩
  | 6, _, h => by cases h; exact ⟨zin_6, tyX6_ok, nmX6, rfl⟩
  | 7, _, h => by cases h; exact ⟨zin_7, tyX7_ok, nmX7, rfl⟩
  | 8, _, h => by cases h; exact ⟨zin_8, tyX8_ok, nmX8, rfl⟩
  | 9, _, h => by cases h; exact ⟨zin_9, tyX9_ok, nmX9, rfl⟩
  | 10, _, h => by cases h; exact ⟨zin_10, tyX10_ok, nmX10, rfl⟩
  | 11, _, h => by cases h; exact ⟨zin_11, tyX11_ok, nmX11, rfl⟩
  | 12, _, h => by cases h; exact ⟨zin_12, tyX12_ok, nmX12, rfl⟩
  | n + 13, q, h => by simp [zCl] at h
