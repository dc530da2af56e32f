/-! the constructors' run, by the kernel -/
def yfl {α : Type} (lo : Nat) (l : List (Nat × Nat × α)) : List (Nat × Nat × α) := l.filter (fun e => bif Nat.ble lo e.1 then Nat.blt e.1 (lo + 10) else false)
def yck {α : Type} [DecidableEq α] (z : α) (l w : List (Nat × Nat × α)) : Bool := (List.range 44).all fun i => (yfl (10 * i) w).all fun q => decide (ylk z (yfl (10 * i) l) q.1 q.2.1 = q.2.2)
theorem yfl_lk {α : Type} (z : α) {lo a : Nat} (h1 : lo ≤ a) (h2 : a < lo + 10) (b : Nat) : ∀ l : List (Nat × Nat × α), ylk z (yfl lo l) a b = ylk z l a b
  | [] => rfl
  | (x, y, v) :: r => by
    have ih := yfl_lk z h1 h2 b r
    rw [ylk_c]
    unfold yfl at ih ⊢
    rw [List.filter_cons]
    by_cases h : a = x
    · subst h
      have : (bif Nat.ble lo a then Nat.blt a (lo + 10) else false) = true := by
        rw [show Nat.ble lo a = true from Nat.ble_eq.mpr h1]
        exact Nat.ble_eq.mpr h2
      rw [if_pos this, ylk_c, ih]
    · split
      · rw [ylk_c, ih]
      · rw [if_neg (fun q => h q.1), ih]
theorem yck_ok {α : Type} [DecidableEq α] {z : α} {l w : List (Nat × Nat × α)} (h : yck z l w = true) {a b : Nat} {v : α} (hq : (a, b, v) ∈ w) (ha : a < 440) : ylk z l a b = v := by
  have h1 := List.all_eq_true.mp h (a / 10) (List.mem_range.mpr (by omega))
  have hm : (a, b, v) ∈ yfl (10 * (a / 10)) w := by
    unfold yfl
    refine List.mem_filter.mpr ⟨hq, ?_⟩
    show (bif Nat.ble (10 * (a / 10)) a then Nat.blt a (10 * (a / 10) + 10) else false) = true
    rw [show Nat.ble (10 * (a / 10)) a = true from Nat.ble_eq.mpr (by omega)]
    exact Nat.ble_eq.mpr (by omega)
  have h2 := of_decide_eq_true (List.all_eq_true.mp h1 _ hm)
  dsimp only at h2
  rw [yfl_lk z (by omega) (by omega)] at h2
  exact h2
def yWd (b : Nat) : List (Nat × Nat × Int32) := [(b + 1, 0, nI 7), (b + 1, 1, nI 7), (b + 3, 0, nI 5), (b + 3, 1, nI 4), (b + 5, 0, nI 5), (b + 5, 1, nI 4)]
def yWs : List Nat := [10, 21, 39, 46] ++ (List.range 40).map (fun i => 80 + 7 * i) ++ (List.range 3).map (fun s => 361 + 7 * s)
def yEq : List (Nat × Nat × Int32) := [(7, 1, nI 0), (7, 2, -1), (40, 3, nI 0), (42, 3, nI 0), (44, 3, nI 0), (39, 3, r0 tx0 55), (39, 4, r0 tx0 56), (39, 5, r0 tx0 57), (9, 2, sta (P0 tx0) 0), (9, 3, sta (P0 tx0) 1), (9, 4, sta (P0 tx0) 2), (78, 2, nI 0), (78, 1, nI 0), (78, 4, nI 0), (382, 0, nI 20), (382, 1, nI 5), (382, 3, nI 0), (17, 2, nI 10), (384, 18, nI 0), (393, 0, nI 0), (397, 0, nI 0), (400, 0, nI 0), (404, 0, sta (P0 tx0) 0), (405, 0, sta (P0 tx0) 1), (406, 0, sta (P0 tx0) 2), (384, 59, nI 0), (435, 0, nI 0), (435, 1, nI 0), (435, 2, nI 0), (384, 74, nI 0), (384, 2, nI 0), (384, 17, -1)]
def yI : List (Nat × Nat × Int32) := yEq ++ yWs.flatMap yWd ++ (List.range 10).map (fun j => (18, j, dcl j)) ++ (List.range 4).map (fun j => (19, j, nI (dst j))) ++ (List.range 4).map (fun j => (407, j, nI 0)) ++ (List.range 4).map (fun j => (408, j, nI 0)) ++ (List.range 58).map (fun j => (419, j, r0 tx0 j))
def yL : List (Nat × Nat × Int64) := (List.range 22).map (fun w => (33, w, lN (wN 32 w))) ++ (List.range 22).map (fun w => (391, w, lN (wN 27 w)))
def yc0 : ycM := ((0, 0, []), [], [], [])
def yrun1 : Option ycR := ymtC zcod 9000 60 112 [.ref 7] (yalC yc0 11 14)
def yrun2 (c : ycM) : Option ycR := ymtC zcod 9000 60 155 [.ref 384] (yalC c 12 82)
def yrun (f : ycM → Bool) : Bool := match yrun1 with
  | some (none, c) => Nat.beq c.1.1 377 && (match yrun2 c with
    | some (none, c2) => f c2
    | _ => false)
  | _ => false
theorem yok1 : yrun (fun c => Nat.beq c.1.1 430 && Nat.beq c.1.2.1 21857 && (List.range 430).all (fun r => decide (yeK c.1.2.2 (r + 7) = zKN.getD r (0, 0)))) = true := by decide +kernel
theorem yok2 : yrun (fun c => yck 0 c.2.1 zRT) = true := by decide +kernel
theorem yok3 : yrun (fun c => yck 0 c.2.2.1 yI) = true := by decide +kernel
theorem yok4 : yrun (fun c => yck 0 c.2.2.2 yL && c.2.2.1.all (fun e => !(Nat.beq e.1 34))) = true := by decide +kernel
