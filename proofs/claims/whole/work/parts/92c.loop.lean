/-! the law's loop -/
theorem bI_go {o : Option zR} {x : Int32} {M : zM} {f : Int32 → zM → Option zR} {y : Option zR} (e : o = some (some (.int x), M)) (h : f x M = y) : bI o f = y := by
  rw [e]
  exact h
def LWs (l3 : Int32) : zLs := [(0, .ref 1), (1, .ref 7), (2, .ref 384), (3, .int l3)]
def LG (pc : Nat) : Prop := ∀ {S : mS} {I : mI} {L : mJ} {L0 : Nat} {xs : Nat → Int32} {l3 : Int32}, WV S I L → (∀ k, k < 6 → zin (l3 + nI k) L0) → ∃ S2 J2 L2, WV S2 J2 L2 ∧ evk zcod (some (L0, xs)) 60 zc_law pc (LWs l3) [] (S, I, L) = evk zcod (some (L0, xs)) 60 zc_law 1188 (LWs l3) [] (S2, J2, L2)
theorem lw_feed : LG 176 := by
  intro S I L L0 xs l3 h hz
  obtain ⟨x, S1, J1, L1, S2, J2, L2, e1, n1, G1, e2, n2, w⟩ := t_feed h (xs (zix (l3 + nI 1))) (xs (zix (l3 + nI 2))) (xs (zix (l3 + nI 3))) (xs (zix (l3 + nI 4))) (xs (zix (l3 + nI 5)))
  refine ⟨S2, J2, L2, w, ?_⟩
  exact (B_law_176 60 S I L L0 xs 1 7 384 l3).trans (pos ⟨rfl, hz 1 (by omega)⟩ <| pos ⟨rfl, hz 2 (by omega)⟩ <| pos ⟨rfl, hz 3 (by omega)⟩ <| pos ⟨rfl, hz 4 (by omega)⟩ <| pos ⟨rfl, hz 5 (by omega)⟩ <| pos (gTop h.1).1 <| bI_go e1 <| pos n1 <| pos ⟨rfl, hz 1 (by omega)⟩ <| pos ⟨rfl, hz 2 (by omega)⟩ <| pos ⟨rfl, hz 3 (by omega)⟩ <| pos ⟨rfl, hz 4 (by omega)⟩ <| pos ⟨rfl, hz 5 (by omega)⟩ <| pos (gM G1).1 <| bI_go e2 <| pos n2 <| pos rfl rfl)
theorem lw_back : LG 239 := by
  intro S I L L0 xs l3 h hz
  obtain ⟨x, S1, J1, L1, S2, J2, L2, e1, n1, G1, e2, n2, w⟩ := t_back h (xs (zix (l3 + nI 1)))
  refine ⟨S2, J2, L2, w, ?_⟩
  exact (B_law_239 60 S I L L0 xs 1 7 384 l3).trans (pos ⟨rfl, hz 1 (by omega)⟩ <| pos (gTop h.1).1 <| bI_go e1 <| pos n1 <| pos ⟨rfl, hz 1 (by omega)⟩ <| pos (gM G1).1 <| bI_go e2 <| pos n2 <| pos rfl rfl)
theorem lw_read : LG 262 := by
  intro S I L L0 xs l3 h hz
  obtain ⟨x, S1, J1, L1, S2, J2, L2, e1, n1, G1, e2, n2, w⟩ := t_read h 
  refine ⟨S2, J2, L2, w, ?_⟩
  exact (B_law_262 60 S I L L0 xs 1 7 384 l3).trans (pos (gTop h.1).1 <| bI_go e1 <| pos n1 <| pos (gM G1).1 <| bI_go e2 <| pos n2 <| pos rfl rfl)
theorem lw_place : LG 275 := by
  intro S I L L0 xs l3 h hz
  obtain ⟨x, S1, J1, L1, S2, J2, L2, e1, n1, G1, e2, n2, w⟩ := t_place h 
  refine ⟨S2, J2, L2, w, ?_⟩
  exact (B_law_275 60 S I L L0 xs 1 7 384 l3).trans (pos (gTop h.1).1 <| bI_go e1 <| pos n1 <| pos (gM G1).1 <| bI_go e2 <| pos n2 <| pos rfl rfl)
theorem lw_load : LG 288 := by
  intro S I L L0 xs l3 h hz
  obtain ⟨x, S1, J1, L1, S2, J2, L2, e1, n1, G1, e2, n2, w⟩ := t_load h (xs (zix (l3 + nI 1))) (xs (zix (l3 + nI 2)))
  refine ⟨S2, J2, L2, w, ?_⟩
  exact (B_law_288 60 S I L L0 xs 1 7 384 l3).trans (pos ⟨rfl, hz 1 (by omega)⟩ <| pos ⟨rfl, hz 2 (by omega)⟩ <| pos (gTop h.1).1 <| bI_go e1 <| pos n1 <| pos ⟨rfl, hz 1 (by omega)⟩ <| pos ⟨rfl, hz 2 (by omega)⟩ <| pos (gM G1).1 <| bI_go e2 <| pos n2 <| pos rfl rfl)
theorem lw_silk : LG 321 := by
  intro S I L L0 xs l3 h hz
  obtain ⟨x, S1, J1, L1, S2, J2, L2, e1, n1, G1, e2, n2, w⟩ := t_silk h (xs (zix (l3 + nI 1))) (xs (zix (l3 + nI 2)))
  refine ⟨S2, J2, L2, w, ?_⟩
  exact (B_law_321 60 S I L L0 xs 1 7 384 l3).trans (pos ⟨rfl, hz 1 (by omega)⟩ <| pos ⟨rfl, hz 2 (by omega)⟩ <| pos (gTop h.1).1 <| bI_go e1 <| pos n1 <| pos ⟨rfl, hz 1 (by omega)⟩ <| pos ⟨rfl, hz 2 (by omega)⟩ <| pos (gM G1).1 <| bI_go e2 <| pos n2 <| pos rfl rfl)
theorem lw_pull : LG 354 := by
  intro S I L L0 xs l3 h hz
  obtain ⟨x, S1, J1, L1, S2, J2, L2, e1, n1, G1, e2, n2, w⟩ := t_pull h (xs (zix (l3 + nI 1)))
  refine ⟨S2, J2, L2, w, ?_⟩
  exact (B_law_354 60 S I L L0 xs 1 7 384 l3).trans (pos ⟨rfl, hz 1 (by omega)⟩ <| pos (gTop h.1).1 <| bI_go e1 <| pos n1 <| pos ⟨rfl, hz 1 (by omega)⟩ <| pos (gM G1).1 <| bI_go e2 <| pos n2 <| pos rfl rfl)
theorem lw_hook : LG 377 := by
  intro S I L L0 xs l3 h hz
  obtain ⟨x, S1, J1, L1, S2, J2, L2, e1, n1, G1, e2, n2, w⟩ := t_hook h (xs (zix (l3 + nI 1))) (xs (zix (l3 + nI 2)))
  refine ⟨S2, J2, L2, w, ?_⟩
  exact (B_law_377 60 S I L L0 xs 1 7 384 l3).trans (pos ⟨rfl, hz 1 (by omega)⟩ <| pos ⟨rfl, hz 2 (by omega)⟩ <| pos (gTop h.1).1 <| bI_go e1 <| pos n1 <| pos ⟨rfl, hz 1 (by omega)⟩ <| pos ⟨rfl, hz 2 (by omega)⟩ <| pos (gM G1).1 <| bI_go e2 <| pos n2 <| pos rfl rfl)
theorem lw_tells : LG 410 := by
  intro S I L L0 xs l3 h hz
  obtain ⟨x, S1, J1, L1, S2, J2, L2, e1, n1, G1, e2, n2, w⟩ := t_tells h (xs (zix (l3 + nI 1))) (xs (zix (l3 + nI 2))) (xs (zix (l3 + nI 3)))
  refine ⟨S2, J2, L2, w, ?_⟩
  exact (B_law_410 60 S I L L0 xs 1 7 384 l3).trans (pos ⟨rfl, hz 1 (by omega)⟩ <| pos ⟨rfl, hz 2 (by omega)⟩ <| pos ⟨rfl, hz 3 (by omega)⟩ <| pos (gTop h.1).1 <| bI_go e1 <| pos n1 <| pos ⟨rfl, hz 1 (by omega)⟩ <| pos ⟨rfl, hz 2 (by omega)⟩ <| pos ⟨rfl, hz 3 (by omega)⟩ <| pos (gM G1).1 <| bI_go e2 <| pos n2 <| pos rfl rfl)
theorem lw_tie : LG 453 := by
  intro S I L L0 xs l3 h hz
  obtain ⟨x, S1, J1, L1, S2, J2, L2, e1, n1, G1, e2, n2, w⟩ := t_tie h (xs (zix (l3 + nI 1))) (xs (zix (l3 + nI 2)))
  refine ⟨S2, J2, L2, w, ?_⟩
  exact (B_law_453 60 S I L L0 xs 1 7 384 l3).trans (pos ⟨rfl, hz 1 (by omega)⟩ <| pos ⟨rfl, hz 2 (by omega)⟩ <| pos (gTop h.1).1 <| bI_go e1 <| pos n1 <| pos ⟨rfl, hz 1 (by omega)⟩ <| pos ⟨rfl, hz 2 (by omega)⟩ <| pos (gM G1).1 <| bI_go e2 <| pos n2 <| pos rfl rfl)
theorem lw_move : LG 486 := by
  intro S I L L0 xs l3 h hz
  obtain ⟨x, S1, J1, L1, S2, J2, L2, e1, n1, G1, e2, n2, w⟩ := t_move h (xs (zix (l3 + nI 1))) (xs (zix (l3 + nI 2)))
  refine ⟨S2, J2, L2, w, ?_⟩
  exact (B_law_486 60 S I L L0 xs 1 7 384 l3).trans (pos ⟨rfl, hz 1 (by omega)⟩ <| pos ⟨rfl, hz 2 (by omega)⟩ <| pos (gTop h.1).1 <| bI_go e1 <| pos n1 <| pos ⟨rfl, hz 1 (by omega)⟩ <| pos ⟨rfl, hz 2 (by omega)⟩ <| pos (gM G1).1 <| bI_go e2 <| pos n2 <| pos rfl rfl)
theorem lw_hours : LG 568 := by
  intro S I L L0 xs l3 h hz
  obtain ⟨x, S1, J1, L1, S2, J2, L2, e1, n1, G1, e2, n2, w⟩ := t_hours h (xs (zix (l3 + nI 1)))
  refine ⟨S2, J2, L2, w, ?_⟩
  exact (B_law_568 60 S I L L0 xs 1 7 384 l3).trans (pos ⟨rfl, hz 1 (by omega)⟩ <| pos (gTop h.1).1 <| bI_go e1 <| pos n1 <| pos ⟨rfl, hz 1 (by omega)⟩ <| pos (gM G1).1 <| bI_go e2 <| pos n2 <| pos rfl rfl)
theorem lw_undo : LG 591 := by
  intro S I L L0 xs l3 h hz
  obtain ⟨x, S1, J1, L1, S2, J2, L2, e1, n1, G1, e2, n2, w⟩ := t_undo h 
  refine ⟨S2, J2, L2, w, ?_⟩
  exact (B_law_591 60 S I L L0 xs 1 7 384 l3).trans (pos (gTop h.1).1 <| bI_go e1 <| pos n1 <| pos (gM G1).1 <| bI_go e2 <| pos n2 <| pos rfl rfl)
theorem lw_flight : LG 604 := by
  intro S I L L0 xs l3 h hz
  obtain ⟨x, S1, J1, L1, S2, J2, L2, e1, n1, G1, e2, n2, w⟩ := t_flight h (xs (zix (l3 + nI 1))) (xs (zix (l3 + nI 2))) (xs (zix (l3 + nI 3))) (xs (zix (l3 + nI 4)))
  refine ⟨S2, J2, L2, w, ?_⟩
  exact (B_law_604 60 S I L L0 xs 1 7 384 l3).trans (pos ⟨rfl, hz 1 (by omega)⟩ <| pos ⟨rfl, hz 2 (by omega)⟩ <| pos ⟨rfl, hz 3 (by omega)⟩ <| pos ⟨rfl, hz 4 (by omega)⟩ <| pos (gTop h.1).1 <| bI_go e1 <| pos n1 <| pos ⟨rfl, hz 1 (by omega)⟩ <| pos ⟨rfl, hz 2 (by omega)⟩ <| pos ⟨rfl, hz 3 (by omega)⟩ <| pos ⟨rfl, hz 4 (by omega)⟩ <| pos (gM G1).1 <| bI_go e2 <| pos n2 <| pos rfl rfl)
theorem lw_soon : LG 657 := by
  intro S I L L0 xs l3 h hz
  obtain ⟨x, S1, J1, L1, S2, J2, L2, e1, n1, G1, e2, n2, w⟩ := t_soon h (xs (zix (l3 + nI 1))) (xs (zix (l3 + nI 2))) (xs (zix (l3 + nI 3)))
  refine ⟨S2, J2, L2, w, ?_⟩
  exact (B_law_657 60 S I L L0 xs 1 7 384 l3).trans (pos ⟨rfl, hz 1 (by omega)⟩ <| pos ⟨rfl, hz 2 (by omega)⟩ <| pos ⟨rfl, hz 3 (by omega)⟩ <| pos (gTop h.1).1 <| bI_go e1 <| pos n1 <| pos ⟨rfl, hz 1 (by omega)⟩ <| pos ⟨rfl, hz 2 (by omega)⟩ <| pos ⟨rfl, hz 3 (by omega)⟩ <| pos (gM G1).1 <| bI_go e2 <| pos n2 <| pos rfl rfl)
theorem lw_patches : LG 700 := by
  intro S I L L0 xs l3 h hz
  obtain ⟨x, S1, J1, L1, S2, J2, L2, e1, n1, G1, e2, n2, w⟩ := t_patches h (xs (zix (l3 + nI 1))) (xs (zix (l3 + nI 2))) (xs (zix (l3 + nI 3)))
  refine ⟨S2, J2, L2, w, ?_⟩
  exact (B_law_700 60 S I L L0 xs 1 7 384 l3).trans (pos ⟨rfl, hz 1 (by omega)⟩ <| pos ⟨rfl, hz 2 (by omega)⟩ <| pos ⟨rfl, hz 3 (by omega)⟩ <| pos (gTop h.1).1 <| bI_go e1 <| pos n1 <| pos ⟨rfl, hz 1 (by omega)⟩ <| pos ⟨rfl, hz 2 (by omega)⟩ <| pos ⟨rfl, hz 3 (by omega)⟩ <| pos (gM G1).1 <| bI_go e2 <| pos n2 <| pos rfl rfl)
theorem lw_near : LG 743 := by
  intro S I L L0 xs l3 h hz
  obtain ⟨x, S1, J1, L1, S2, J2, L2, e1, n1, G1, e2, n2, w⟩ := t_near h (xs (zix (l3 + nI 1)))
  refine ⟨S2, J2, L2, w, ?_⟩
  exact (B_law_743 60 S I L L0 xs 1 7 384 l3).trans (pos ⟨rfl, hz 1 (by omega)⟩ <| pos (gTop h.1).1 <| bI_go e1 <| pos n1 <| pos ⟨rfl, hz 1 (by omega)⟩ <| pos (gM G1).1 <| bI_go e2 <| pos n2 <| pos rfl rfl)
theorem lw_lifts : LG 766 := by
  intro S I L L0 xs l3 h hz
  obtain ⟨x, S1, J1, L1, S2, J2, L2, e1, n1, G1, e2, n2, w⟩ := t_lifts h (xs (zix (l3 + nI 1))) (xs (zix (l3 + nI 2)))
  refine ⟨S2, J2, L2, w, ?_⟩
  exact (B_law_766 60 S I L L0 xs 1 7 384 l3).trans (pos ⟨rfl, hz 1 (by omega)⟩ <| pos ⟨rfl, hz 2 (by omega)⟩ <| pos (gTop h.1).1 <| bI_go e1 <| pos n1 <| pos ⟨rfl, hz 1 (by omega)⟩ <| pos ⟨rfl, hz 2 (by omega)⟩ <| pos (gM G1).1 <| bI_go e2 <| pos n2 <| pos rfl rfl)
theorem lw_fill : LG 799 := by
  intro S I L L0 xs l3 h hz
  obtain ⟨x, S1, J1, L1, S2, J2, L2, e1, n1, G1, e2, n2, w⟩ := t_fill h (xs (zix (l3 + nI 1)))
  refine ⟨S2, J2, L2, w, ?_⟩
  exact (B_law_799 60 S I L L0 xs 1 7 384 l3).trans (pos ⟨rfl, hz 1 (by omega)⟩ <| pos (gTop h.1).1 <| bI_go e1 <| pos n1 <| pos ⟨rfl, hz 1 (by omega)⟩ <| pos (gM G1).1 <| bI_go e2 <| pos n2 <| pos rfl rfl)
theorem lw_fewest : LG 822 := by
  intro S I L L0 xs l3 h hz
  obtain ⟨x, S1, J1, L1, S2, J2, L2, e1, n1, G1, e2, n2, w⟩ := t_fewest h 
  refine ⟨S2, J2, L2, w, ?_⟩
  exact (B_law_822 60 S I L L0 xs 1 7 384 l3).trans (pos (gTop h.1).1 <| bI_go e1 <| pos n1 <| pos (gM G1).1 <| bI_go e2 <| pos n2 <| pos rfl rfl)
theorem lw_waits : LG 835 := by
  intro S I L L0 xs l3 h hz
  obtain ⟨x, S1, J1, L1, S2, J2, L2, e1, n1, G1, e2, n2, w⟩ := t_waits h (xs (zix (l3 + nI 1))) (xs (zix (l3 + nI 2))) (xs (zix (l3 + nI 3)))
  refine ⟨S2, J2, L2, w, ?_⟩
  exact (B_law_835 60 S I L L0 xs 1 7 384 l3).trans (pos ⟨rfl, hz 1 (by omega)⟩ <| pos ⟨rfl, hz 2 (by omega)⟩ <| pos ⟨rfl, hz 3 (by omega)⟩ <| pos (gTop h.1).1 <| bI_go e1 <| pos n1 <| pos ⟨rfl, hz 1 (by omega)⟩ <| pos ⟨rfl, hz 2 (by omega)⟩ <| pos ⟨rfl, hz 3 (by omega)⟩ <| pos (gM G1).1 <| bI_go e2 <| pos n2 <| pos rfl rfl)
theorem lw_then : LG 878 := by
  intro S I L L0 xs l3 h hz
  obtain ⟨x, S1, J1, L1, S2, J2, L2, e1, n1, G1, e2, n2, w⟩ := t_then h (xs (zix (l3 + nI 1))) (xs (zix (l3 + nI 2))) (xs (zix (l3 + nI 3)))
  refine ⟨S2, J2, L2, w, ?_⟩
  exact (B_law_878 60 S I L L0 xs 1 7 384 l3).trans (pos ⟨rfl, hz 1 (by omega)⟩ <| pos ⟨rfl, hz 2 (by omega)⟩ <| pos ⟨rfl, hz 3 (by omega)⟩ <| pos (gTop h.1).1 <| bI_go e1 <| pos n1 <| pos ⟨rfl, hz 1 (by omega)⟩ <| pos ⟨rfl, hz 2 (by omega)⟩ <| pos ⟨rfl, hz 3 (by omega)⟩ <| pos (gM G1).1 <| bI_go e2 <| pos n2 <| pos rfl rfl)
theorem lw_earns : LG 921 := by
  intro S I L L0 xs l3 h hz
  obtain ⟨x, S1, J1, L1, S2, J2, L2, e1, n1, G1, e2, n2, w⟩ := t_earns h (xs (zix (l3 + nI 1)))
  refine ⟨S2, J2, L2, w, ?_⟩
  exact (B_law_921 60 S I L L0 xs 1 7 384 l3).trans (pos ⟨rfl, hz 1 (by omega)⟩ <| pos (gTop h.1).1 <| bI_go e1 <| pos n1 <| pos ⟨rfl, hz 1 (by omega)⟩ <| pos (gM G1).1 <| bI_go e2 <| pos n2 <| pos rfl rfl)
theorem lw_year : LG 944 := by
  intro S I L L0 xs l3 h hz
  obtain ⟨x, S1, J1, L1, S2, J2, L2, e1, n1, G1, e2, n2, w⟩ := t_year h (xs (zix (l3 + nI 1))) (xs (zix (l3 + nI 2))) (xs (zix (l3 + nI 3)))
  refine ⟨S2, J2, L2, w, ?_⟩
  exact (B_law_944 60 S I L L0 xs 1 7 384 l3).trans (pos ⟨rfl, hz 1 (by omega)⟩ <| pos ⟨rfl, hz 2 (by omega)⟩ <| pos ⟨rfl, hz 3 (by omega)⟩ <| pos (gTop h.1).1 <| bI_go e1 <| pos n1 <| pos ⟨rfl, hz 1 (by omega)⟩ <| pos ⟨rfl, hz 2 (by omega)⟩ <| pos ⟨rfl, hz 3 (by omega)⟩ <| pos (gM G1).1 <| bI_go e2 <| pos n2 <| pos rfl rfl)
theorem lw_tell : LG 987 := by
  intro S I L L0 xs l3 h hz
  obtain ⟨x, S1, J1, L1, S2, J2, L2, e1, n1, G1, e2, n2, w⟩ := t_tell h (xs (zix (l3 + nI 1))) (xs (zix (l3 + nI 2))) (xs (zix (l3 + nI 3))) (xs (zix (l3 + nI 4))) (xs (zix (l3 + nI 5)))
  refine ⟨S2, J2, L2, w, ?_⟩
  exact (B_law_987 60 S I L L0 xs 1 7 384 l3).trans (pos ⟨rfl, hz 1 (by omega)⟩ <| pos ⟨rfl, hz 2 (by omega)⟩ <| pos ⟨rfl, hz 3 (by omega)⟩ <| pos ⟨rfl, hz 4 (by omega)⟩ <| pos ⟨rfl, hz 5 (by omega)⟩ <| pos (gTop h.1).1 <| bI_go e1 <| pos n1 <| pos ⟨rfl, hz 1 (by omega)⟩ <| pos ⟨rfl, hz 2 (by omega)⟩ <| pos ⟨rfl, hz 3 (by omega)⟩ <| pos ⟨rfl, hz 4 (by omega)⟩ <| pos ⟨rfl, hz 5 (by omega)⟩ <| pos (gM G1).1 <| bI_go e2 <| pos n2 <| pos rfl rfl)
theorem lw_forget : LG 1050 := by
  intro S I L L0 xs l3 h hz
  obtain ⟨x, S1, J1, L1, S2, J2, L2, e1, n1, G1, e2, n2, w⟩ := t_forget h 
  refine ⟨S2, J2, L2, w, ?_⟩
  exact (B_law_1050 60 S I L L0 xs 1 7 384 l3).trans (pos (gTop h.1).1 <| bI_go e1 <| pos n1 <| pos (gM G1).1 <| bI_go e2 <| pos n2 <| pos rfl rfl)
theorem lw_pulls : LG 1063 := by
  intro S I L L0 xs l3 h hz
  obtain ⟨x, S1, J1, L1, S2, J2, L2, e1, n1, G1, e2, n2, w⟩ := t_pulls h (xs (zix (l3 + nI 1))) (xs (zix (l3 + nI 2)))
  refine ⟨S2, J2, L2, w, ?_⟩
  exact (B_law_1063 60 S I L L0 xs 1 7 384 l3).trans (pos ⟨rfl, hz 1 (by omega)⟩ <| pos ⟨rfl, hz 2 (by omega)⟩ <| pos (gTop h.1).1 <| bI_go e1 <| pos n1 <| pos ⟨rfl, hz 1 (by omega)⟩ <| pos ⟨rfl, hz 2 (by omega)⟩ <| pos (gM G1).1 <| bI_go e2 <| pos n2 <| pos rfl rfl)
theorem lw_sure : LG 1096 := by
  intro S I L L0 xs l3 h hz
  obtain ⟨x, S1, J1, L1, S2, J2, L2, e1, n1, G1, e2, n2, w⟩ := t_sure h (xs (zix (l3 + nI 1)))
  refine ⟨S2, J2, L2, w, ?_⟩
  exact (B_law_1096 60 S I L L0 xs 1 7 384 l3).trans (pos ⟨rfl, hz 1 (by omega)⟩ <| pos (gTop h.1).1 <| bI_go e1 <| pos n1 <| pos ⟨rfl, hz 1 (by omega)⟩ <| pos (gM G1).1 <| bI_go e2 <| pos n2 <| pos rfl rfl)
theorem lw_hold : LG 1119 := by
  intro S I L L0 xs l3 h hz
  obtain ⟨x, S1, J1, L1, S2, J2, L2, e1, n1, G1, e2, n2, w⟩ := t_hold h (xs (zix (l3 + nI 1)))
  refine ⟨S2, J2, L2, w, ?_⟩
  exact (B_law_1119 60 S I L L0 xs 1 7 384 l3).trans (pos ⟨rfl, hz 1 (by omega)⟩ <| pos (gTop h.1).1 <| bI_go e1 <| pos n1 <| pos ⟨rfl, hz 1 (by omega)⟩ <| pos (gM G1).1 <| bI_go e2 <| pos n2 <| pos rfl rfl)
theorem lw_restore : LG 1142 := by
  intro S I L L0 xs l3 h hz
  obtain ⟨x, S1, J1, L1, S2, J2, L2, e1, n1, G1, e2, n2, w⟩ := t_restore h (xs (zix (l3 + nI 1)))
  refine ⟨S2, J2, L2, w, ?_⟩
  exact (B_law_1142 60 S I L L0 xs 1 7 384 l3).trans (pos ⟨rfl, hz 1 (by omega)⟩ <| pos (gTop h.1).1 <| bI_go e1 <| pos n1 <| pos ⟨rfl, hz 1 (by omega)⟩ <| pos (gM G1).1 <| bI_go e2 <| pos n2 <| pos rfl rfl)
theorem lw_count : LG 1165 := by
  intro S I L L0 xs l3 h hz
  obtain ⟨x, S1, J1, L1, S2, J2, L2, e1, n1, G1, e2, n2, w⟩ := t_count h (xs (zix (l3 + nI 1)))
  refine ⟨S2, J2, L2, w, ?_⟩
  exact (B_law_1165 60 S I L L0 xs 1 7 384 l3).trans (pos ⟨rfl, hz 1 (by omega)⟩ <| pos (gTop h.1).1 <| bI_go e1 <| pos n1 <| pos ⟨rfl, hz 1 (by omega)⟩ <| pos (gM G1).1 <| bI_go e2 <| pos n2 <| pos rfl rfl)
theorem lw_patch : LG 519 := by
  intro S I L L0 xs l3 h hz
  have z1 := hz 1 (by omega)
  have z2 := hz 2 (by omega)
  by_cases q : xs (zix (l3 + nI 2)) = nI 0
  · obtain ⟨x, S1, J1, L1, S2, J2, L2, e1, n1, G1, e2, n2, w⟩ := t_patch h (xs (zix (l3 + nI 1))) (nI 0)
    refine ⟨S2, J2, L2, w, ?_⟩
    have a1 := (B_law_519 60 S I L L0 xs 1 7 384 l3).trans (pos ⟨rfl, z1⟩ <| pos ⟨rfl, z2⟩ <| pos q (B_law_537 60 S I L L0 xs 1 7 384 l3 _ _))
    have a2 := (B_law_538 60 S I L L0 xs 1 7 384 l3 7 (xs (zix (l3 + nI 1))) (nI 0)).trans (pos (gTop h.1).1 <| bI_go e1 <| pos n1 <| pos ⟨rfl, z1⟩ <| pos ⟨rfl, z2⟩ <| pos q (B_law_559 60 S1 J1 L1 L0 xs 1 7 384 l3 _ _ _))
    have a3 := (B_law_560 60 S1 J1 L1 L0 xs 1 7 384 l3 x 384 (xs (zix (l3 + nI 1))) (nI 0)).trans (pos (gM G1).1 <| bI_go e2 <| pos n2 <| pos rfl rfl)
    exact a1.trans (a2.trans a3)
  · obtain ⟨x, S1, J1, L1, S2, J2, L2, e1, n1, G1, e2, n2, w⟩ := t_patch h (xs (zix (l3 + nI 1))) (nI 1)
    refine ⟨S2, J2, L2, w, ?_⟩
    have a1 := (B_law_519 60 S I L L0 xs 1 7 384 l3).trans (pos ⟨rfl, z1⟩ <| pos ⟨rfl, z2⟩ <| if_neg q)
    have a2 := (B_law_538 60 S I L L0 xs 1 7 384 l3 7 (xs (zix (l3 + nI 1))) (nI 1)).trans (pos (gTop h.1).1 <| bI_go e1 <| pos n1 <| pos ⟨rfl, z1⟩ <| pos ⟨rfl, z2⟩ <| if_neg q)
    have a3 := (B_law_560 60 S1 J1 L1 L0 xs 1 7 384 l3 x 384 (xs (zix (l3 + nI 1))) (nI 1)).trans (pos (gM G1).1 <| bI_go e2 <| pos n2 <| pos rfl rfl)
    exact a1.trans (a2.trans a3)
theorem lif {c : Prop} [Decidable c] {a b : Option zR} {A : Option zR → Prop} (ha : A a) (hb : A b) : A (if c then a else b) := by
  split
  · exact ha
  · exact hb
theorem lw_nop : LG 1188 := fun h _ => ⟨_, _, _, h, rfl⟩
theorem lw_disp {S : mS} {I : mI} {L : mJ} {L0 : Nat} {xs : Nat → Int32} {l3 : Int32} (h : WV S I L) (hn : ¬ nI L0 - nI 6 < l3) (hz : ∀ k, k < 6 → zin (l3 + nI k) L0) (h0 : zin l3 L0) : ∃ S2 J2 L2, WV S2 J2 L2 ∧ evk zcod (some (L0, xs)) 60 zc_law 18 (LWs l3) [] (S, I, L) = evk zcod (some (L0, xs)) 60 zc_law 1188 (LWs l3) [] (S2, J2, L2) := by
  have key : ∀ o, evk zcod (some (L0, xs)) 60 zc_law 18 (LWs l3) [] (S, I, L) = o → (∃ S2 J2 L2, WV S2 J2 L2 ∧ o = evk zcod (some (L0, xs)) 60 zc_law 1188 (LWs l3) [] (S2, J2, L2)) → ∃ S2 J2 L2, WV S2 J2 L2 ∧ evk zcod (some (L0, xs)) 60 zc_law 18 (LWs l3) [] (S, I, L) = evk zcod (some (L0, xs)) 60 zc_law 1188 (LWs l3) [] (S2, J2, L2) := fun o e q => e ▸ q
  refine key _ ((B_law_18 60 S I L L0 xs 1 7 384 l3).trans (pos rfl <| neg hn <| pos ⟨rfl, h0⟩ rfl)) ?_
  refine lif (A := fun o => ∃ S2 J2 L2, WV S2 J2 L2 ∧ o = evk zcod (some (L0, xs)) 60 zc_law 1188 (LWs l3) [] (S2, J2, L2)) (lw_feed h hz) ?_
  refine lif (A := fun o => ∃ S2 J2 L2, WV S2 J2 L2 ∧ o = evk zcod (some (L0, xs)) 60 zc_law 1188 (LWs l3) [] (S2, J2, L2)) (lw_back h hz) ?_
  refine lif (A := fun o => ∃ S2 J2 L2, WV S2 J2 L2 ∧ o = evk zcod (some (L0, xs)) 60 zc_law 1188 (LWs l3) [] (S2, J2, L2)) (lw_read h hz) ?_
  refine lif (A := fun o => ∃ S2 J2 L2, WV S2 J2 L2 ∧ o = evk zcod (some (L0, xs)) 60 zc_law 1188 (LWs l3) [] (S2, J2, L2)) (lw_place h hz) ?_
  refine lif (A := fun o => ∃ S2 J2 L2, WV S2 J2 L2 ∧ o = evk zcod (some (L0, xs)) 60 zc_law 1188 (LWs l3) [] (S2, J2, L2)) (lw_load h hz) ?_
  refine lif (A := fun o => ∃ S2 J2 L2, WV S2 J2 L2 ∧ o = evk zcod (some (L0, xs)) 60 zc_law 1188 (LWs l3) [] (S2, J2, L2)) (lw_silk h hz) ?_
  refine lif (A := fun o => ∃ S2 J2 L2, WV S2 J2 L2 ∧ o = evk zcod (some (L0, xs)) 60 zc_law 1188 (LWs l3) [] (S2, J2, L2)) (lw_pull h hz) ?_
  refine lif (A := fun o => ∃ S2 J2 L2, WV S2 J2 L2 ∧ o = evk zcod (some (L0, xs)) 60 zc_law 1188 (LWs l3) [] (S2, J2, L2)) (lw_hook h hz) ?_
  refine lif (A := fun o => ∃ S2 J2 L2, WV S2 J2 L2 ∧ o = evk zcod (some (L0, xs)) 60 zc_law 1188 (LWs l3) [] (S2, J2, L2)) (lw_tells h hz) ?_
  refine lif (A := fun o => ∃ S2 J2 L2, WV S2 J2 L2 ∧ o = evk zcod (some (L0, xs)) 60 zc_law 1188 (LWs l3) [] (S2, J2, L2)) (lw_tie h hz) ?_
  refine lif (A := fun o => ∃ S2 J2 L2, WV S2 J2 L2 ∧ o = evk zcod (some (L0, xs)) 60 zc_law 1188 (LWs l3) [] (S2, J2, L2)) (lw_move h hz) ?_
  refine lif (A := fun o => ∃ S2 J2 L2, WV S2 J2 L2 ∧ o = evk zcod (some (L0, xs)) 60 zc_law 1188 (LWs l3) [] (S2, J2, L2)) (lw_patch h hz) ?_
  refine lif (A := fun o => ∃ S2 J2 L2, WV S2 J2 L2 ∧ o = evk zcod (some (L0, xs)) 60 zc_law 1188 (LWs l3) [] (S2, J2, L2)) (lw_hours h hz) ?_
  refine lif (A := fun o => ∃ S2 J2 L2, WV S2 J2 L2 ∧ o = evk zcod (some (L0, xs)) 60 zc_law 1188 (LWs l3) [] (S2, J2, L2)) (lw_undo h hz) ?_
  refine lif (A := fun o => ∃ S2 J2 L2, WV S2 J2 L2 ∧ o = evk zcod (some (L0, xs)) 60 zc_law 1188 (LWs l3) [] (S2, J2, L2)) (lw_flight h hz) ?_
  refine lif (A := fun o => ∃ S2 J2 L2, WV S2 J2 L2 ∧ o = evk zcod (some (L0, xs)) 60 zc_law 1188 (LWs l3) [] (S2, J2, L2)) (lw_soon h hz) ?_
  refine lif (A := fun o => ∃ S2 J2 L2, WV S2 J2 L2 ∧ o = evk zcod (some (L0, xs)) 60 zc_law 1188 (LWs l3) [] (S2, J2, L2)) (lw_patches h hz) ?_
  refine lif (A := fun o => ∃ S2 J2 L2, WV S2 J2 L2 ∧ o = evk zcod (some (L0, xs)) 60 zc_law 1188 (LWs l3) [] (S2, J2, L2)) (lw_near h hz) ?_
  refine lif (A := fun o => ∃ S2 J2 L2, WV S2 J2 L2 ∧ o = evk zcod (some (L0, xs)) 60 zc_law 1188 (LWs l3) [] (S2, J2, L2)) (lw_lifts h hz) ?_
  refine lif (A := fun o => ∃ S2 J2 L2, WV S2 J2 L2 ∧ o = evk zcod (some (L0, xs)) 60 zc_law 1188 (LWs l3) [] (S2, J2, L2)) (lw_fill h hz) ?_
  refine lif (A := fun o => ∃ S2 J2 L2, WV S2 J2 L2 ∧ o = evk zcod (some (L0, xs)) 60 zc_law 1188 (LWs l3) [] (S2, J2, L2)) (lw_fewest h hz) ?_
  refine lif (A := fun o => ∃ S2 J2 L2, WV S2 J2 L2 ∧ o = evk zcod (some (L0, xs)) 60 zc_law 1188 (LWs l3) [] (S2, J2, L2)) (lw_waits h hz) ?_
  refine lif (A := fun o => ∃ S2 J2 L2, WV S2 J2 L2 ∧ o = evk zcod (some (L0, xs)) 60 zc_law 1188 (LWs l3) [] (S2, J2, L2)) (lw_then h hz) ?_
  refine lif (A := fun o => ∃ S2 J2 L2, WV S2 J2 L2 ∧ o = evk zcod (some (L0, xs)) 60 zc_law 1188 (LWs l3) [] (S2, J2, L2)) (lw_earns h hz) ?_
  refine lif (A := fun o => ∃ S2 J2 L2, WV S2 J2 L2 ∧ o = evk zcod (some (L0, xs)) 60 zc_law 1188 (LWs l3) [] (S2, J2, L2)) (lw_year h hz) ?_
  refine lif (A := fun o => ∃ S2 J2 L2, WV S2 J2 L2 ∧ o = evk zcod (some (L0, xs)) 60 zc_law 1188 (LWs l3) [] (S2, J2, L2)) (lw_tell h hz) ?_
  refine lif (A := fun o => ∃ S2 J2 L2, WV S2 J2 L2 ∧ o = evk zcod (some (L0, xs)) 60 zc_law 1188 (LWs l3) [] (S2, J2, L2)) (lw_forget h hz) ?_
  refine lif (A := fun o => ∃ S2 J2 L2, WV S2 J2 L2 ∧ o = evk zcod (some (L0, xs)) 60 zc_law 1188 (LWs l3) [] (S2, J2, L2)) (lw_pulls h hz) ?_
  refine lif (A := fun o => ∃ S2 J2 L2, WV S2 J2 L2 ∧ o = evk zcod (some (L0, xs)) 60 zc_law 1188 (LWs l3) [] (S2, J2, L2)) (lw_sure h hz) ?_
  refine lif (A := fun o => ∃ S2 J2 L2, WV S2 J2 L2 ∧ o = evk zcod (some (L0, xs)) 60 zc_law 1188 (LWs l3) [] (S2, J2, L2)) (lw_hold h hz) ?_
  refine lif (A := fun o => ∃ S2 J2 L2, WV S2 J2 L2 ∧ o = evk zcod (some (L0, xs)) 60 zc_law 1188 (LWs l3) [] (S2, J2, L2)) (lw_restore h hz) ?_
  refine lif (A := fun o => ∃ S2 J2 L2, WV S2 J2 L2 ∧ o = evk zcod (some (L0, xs)) 60 zc_law 1188 (LWs l3) [] (S2, J2, L2)) (lw_count h hz) ?_
  exact lw_nop h hz
theorem law_loop {L0 : Nat} {xs : Nat → Int32} (hL : L0 ≤ 3072) : ∀ (n i : Nat) (S : mS) (I : mI) (L : mJ), WV S I L → i ≤ 3100 → L0 < i + 6 * (n + 1) → ∃ S2 J2 L2, WV S2 J2 L2 ∧ evk zcod (some (L0, xs)) 60 zc_law 18 (LWs (nI i)) [] (S, I, L) = some (some (.int 1), (S2, J2, L2)) := by
  intro n
  induction n with
  | zero =>
    intro i S I L h hi hl
    have t : (nI L0 - nI 6).toInt = (L0 : Int) - 6 := by
      rw [Int32.toInt_sub, t_nI (by omega), t_nI (by omega), Int.bmod_eq_of_le (by omega) (by omega)]
      omega
    have hn : nI L0 - nI 6 < nI i := by
      rw [i_lt, t, t_nI (by omega)]
      omega
    exact ⟨S, I, L, h, (B_law_18 60 S I L L0 xs 1 7 384 (nI i)).trans (pos rfl <| pos hn (B_law_1194 60 S I L L0 xs))⟩
  | succ n ih =>
    intro i S I L h hi hl
    have t : (nI L0 - nI 6).toInt = (L0 : Int) - 6 := by
      rw [Int32.toInt_sub, t_nI (by omega), t_nI (by omega), Int.bmod_eq_of_le (by omega) (by omega)]
      omega
    by_cases q : L0 < i + 6
    · have hn : nI L0 - nI 6 < nI i := by
        rw [i_lt, t, t_nI (by omega)]
        omega
      exact ⟨S, I, L, h, (B_law_18 60 S I L L0 xs 1 7 384 (nI i)).trans (pos rfl <| pos hn (B_law_1194 60 S I L L0 xs))⟩
    · have hn : ¬ nI L0 - nI 6 < nI i := by
        rw [i_lt, t, t_nI (by omega)]
        omega
      have hz : ∀ k, k < 6 → zin (nI i + nI k) L0 := fun k hk => by
        rw [nI_add]
        exact (zin_nI (by omega)).mpr (by omega)
      obtain ⟨S1, J1, L1, w, e⟩ := lw_disp (xs := xs) h hn hz ((zin_nI (by omega)).mpr (by omega))
      obtain ⟨S2, J2, L2, w2, e2⟩ := ih (i + 6) S1 J1 L1 w (by omega) (by omega)
      refine ⟨S2, J2, L2, w2, e.trans ((B_law_1188 60 S1 J1 L1 L0 xs 1 7 384 (nI i)).trans ?_)⟩
      rw [nI_add]
      exact e2
theorem hpure (L0 : Nat) (xs : Nat → Int32) (hL : L0 ≤ 3072) : ∃ (d : Nat) (Mf : zM), d ≤ 1000 ∧ evk zcod (some (L0, xs)) d zc_law 0 [(0, .ref 1)] [] zM0 = some (some (.int 1), Mf) ∧ Mf.1.1 ≤ 600000 ∧ Mf.1.2.1 ≤ 7302250 := by
  obtain ⟨M1, S, I, L, e1, n1, e2, G, sl, ⟨zc, xc, rc⟩, zm, xm, rm⟩ := y_made (fun _ _ => 0) (fun _ _ => 0) (fun _ _ => 0) (fun _ => 0)
  have w : WV S I L := ⟨G, sl, _, _, _, _, _, _, _, _, _, _, _, _, ⟨zc, xc, rc⟩, zm, xm, rm⟩
  obtain ⟨S2, J2, L2, w2, e3⟩ := law_loop (xs := xs) hL 600 0 S I L w (by omega) (by omega)
  refine ⟨60, (S2, J2, L2), by omega, ?_, by show S2.1 ≤ 600000; rw [w2.1.1]; omega, by show S2.2.1 ≤ 7302250; rw [w2.2.1]; omega⟩
  have b0 := B_L_law_0 60 zM0 L0 xs 1
  have b8 := B_L_law_8 60 M1 L0 xs 1 7
  have k7 : zM0.1.1 + 7 = 7 := rfl
  have k8 : M1.1.1 + 7 = 384 := by omega
  have o1 : okS M1 [(0, .ref 1), (1, .ref 7)] [] = true := by
    show (true && (decide (1 < M1.1.1 + 7) && (decide (7 < M1.1.1 + 7) && true))) = true
    rw [n1]
    rfl
  have o2 : okS (alc M1 12 82) [(0, .ref 1), (1, .ref 7)] [.ref (M1.1.1 + 7)] = true := by
    show ((decide (M1.1.1 + 7 < M1.1.1 + 1 + 7) && true) && (decide (1 < M1.1.1 + 1 + 7) && (decide (7 < M1.1.1 + 1 + 7) && true))) = true
    rw [n1]
    rfl
  refine (b0.trans (pos rfl <| pos ⟨by omega, rfl⟩ ?_))
  rw [k7, e1]
  refine b8.trans (pos o1 <| pos ⟨by omega, o2⟩ ?_)
  rw [k8, e2]
  exact (B_law_16 60 S I L L0 xs 1 7 384).trans e3
