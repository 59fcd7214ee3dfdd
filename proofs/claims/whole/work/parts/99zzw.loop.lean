/-! the law's loop -/
theorem i_gt {i L : Nat} (hi : i ≤ 400) (hL : L ≤ 384) (z : ¬ (Int32.ofNat L - 6) < nI i) : i + 6 ≤ L := by
  have e6 : (6 : Int32).toInt = 6 := by decide
  rw [Int32.lt_iff_toInt_lt, show Int32.ofNat L = nI L from rfl, Int32.toInt_sub, nI_toInt (by omega), nI_toInt (by omega), e6, Int.bmod_eq_of_le (by omega) (by omega)] at z
  omega
set_option maxRecDepth 100000 in
set_option maxHeartbeats 4000000 in
theorem law_turn {p : Nat → Nat} {d E1 E2 L x i : Nat} {xs : Nat → Int32} {h : AH} {W : WS} (hd : 20 ≤ d) (hL : L ≤ 384) (hi0 : i ≤ 400) (C : CW (p, h) h x W) (R : RW h (x + 101) W) (ok : wOk W) (go : i + 6 ≤ L → hN h + 200 ≤ E1 ∧ hU h + 2000 ≤ E2 ∧ Nxt d E1 E2 L x i xs h) : LR d E1 E2 L xs (18, [.retAddr 19, .ref x, .ref (x + 101), .int (nI i)], []) h := by
  have HA : AgP p d x h W := ⟨C, R, ok, hd⟩
  refine wL_18 (by omega) x (x + 101) (nI i) ⟨rfl, fun _ => rfl, fun z => ?_⟩
  have hi := i_gt hi0 hL z
  obtain ⟨b1, b2, next⟩ := go hi
  exact ⟨rfl, vp_in_nI (by omega) (by omega), ⟨fun _ => ls_feed HA hi hL (by omega) (by omega) next, fun _ => ⟨fun _ => ls_end HA hi hL (by omega) (by omega) next, fun _ => ⟨fun _ => ls_hill HA hi hL (by omega) (by omega) next, fun _ => ⟨fun _ => ls_rule HA hi hL (by omega) (by omega) next, fun _ => ⟨fun _ => ls_force HA hi hL (by omega) (by omega) next, fun _ => ⟨fun _ => ls_runner HA hi hL (by omega) (by omega) next, fun _ => ⟨fun _ => ls_ware HA hi hL (by omega) (by omega) next, fun _ => ⟨fun _ => ls_day HA hi hL (by omega) (by omega) next, fun _ => ⟨fun _ => ls_lend HA hi hL (by omega) (by omega) next, fun _ => ⟨fun _ => ls_fall HA hi hL (by omega) (by omega) next, fun _ => ⟨fun _ => ls_shift HA hi hL (by omega) (by omega) next, fun _ => ⟨fun _ => ls_train HA hi hL (by omega) (by omega) next, fun _ => ⟨fun _ => ls_undo HA hi hL (by omega) (by omega) next, fun _ => ⟨fun _ => ls_ahead HA hi hL (by omega) (by omega) next, fun _ => ⟨fun _ => ls_gets HA hi hL (by omega) (by omega) next, fun _ => ⟨fun _ => ls_rank HA hi hL (by omega) (by omega) next, fun _ => ⟨fun _ => ls_need HA hi hL (by omega) (by omega) next, fun _ => ⟨fun _ => ls_lender HA hi hL (by omega) (by omega) next, fun _ => ⟨fun _ => ls_row HA hi hL (by omega) (by omega) next, fun _ => ⟨fun _ => ls_settle HA hi hL (by omega) (by omega) next, fun _ => ⟨fun _ => ls_rings HA hi hL (by omega) (by omega) next, fun _ => ⟨fun _ => ls_had HA hi hL (by omega) (by omega) next, fun _ => ⟨fun _ => ls_rests HA hi hL (by omega) (by omega) next, fun _ => ⟨fun _ => ls_pence HA hi hL (by omega) (by omega) next, fun _ => ⟨fun _ => ls_note HA hi hL (by omega) (by omega) next, fun _ => ⟨fun _ => ls_ruled HA hi hL (by omega) (by omega) next, fun _ => ⟨fun _ => ls_look HA hi hL (by omega) (by omega) next, fun _ => ⟨fun _ => ls_seed HA hi hL (by omega) (by omega) next, fun _ => ⟨fun _ => ls_falls HA hi hL (by omega) (by omega) next, fun _ => ⟨fun _ => ls_count HA hi hL (by omega) (by omega) next, fun _ => ⟨fun _ => ls_image HA hi hL (by omega) (by omega) next, fun _ => ⟨fun _ => ls_back HA hi hL (by omega) (by omega) next, fun _ => next p h W C R ok (by omega) (by omega)⟩⟩⟩⟩⟩⟩⟩⟩⟩⟩⟩⟩⟩⟩⟩⟩⟩⟩⟩⟩⟩⟩⟩⟩⟩⟩⟩⟩⟩⟩⟩⟩⟩
set_option maxRecDepth 100000 in
theorem law_loop {d E1 E2 L x : Nat} {xs : Nat → Int32} (hd : 20 ≤ d) (hL : L ≤ 384) : ∀ (n i : Nat) (p : Nat → Nat) (h : AH) (W : WS), L < i + 6 * n + 6 → i ≤ 400 → CW (p, h) h x W → RW h (x + 101) W → wOk W → hN h + 200 * n ≤ E1 → hU h + 2000 * n ≤ E2 → LR d E1 E2 L xs (18, [.retAddr 19, .ref x, .ref (x + 101), .int (nI i)], []) h
  | 0, i, p, h, W, hn, hi, C, R, ok, b1, b2 => law_turn hd hL hi C R ok (fun z => absurd z (by omega))
  | n + 1, i, p, h, W, hn, hi, C, R, ok, b1, b2 => by
    refine law_turn hd hL hi C R ok (fun z => ⟨by omega, by omega, fun p' h' W' C' R' ok' n' u' => ?_⟩)
    rw [nI_pl (k := 6) (by decide) (by omega)]
    exact law_loop hd hL n (i + 6) p' h' W' (by omega) (by omega) C' R' ok' (by omega) (by omega)
set_option maxRecDepth 100000 in
/-- the whole law, from its entry, on the empty heap -/
theorem law_all {d E1 E2 L : Nat} {xs : Nat → Int32} (hd : 20 ≤ d) (hL : L ≤ 384) (h1 : 20000 ≤ E1) (h2 : 200000 ≤ E2) : LR d E1 E2 L xs (0, [.retAddr 19, .float 0, .float 0, .float 0], []) g0 := by
  have n0 : hN g0 = 1 := rfl
  have u0 : hU g0 = 0 := rfl
  have f11 : fN 11 = 11 := rfl
  have f12 : fN 12 = 59 := rfl
  have nb : hN g197 = 102 := by decide +kernel
  have ub : hU g197 = 1722 := by decide +kernel
  refine wL_0 (by omega) ⟨by omega, by omega, lHg (g := g1) (nC_nK (by decide +kernel) (by decide +kernel)) ⟨by decide +kernel, 102, 1722, by omega, by omega, ?_⟩⟩
  refine i1_11 (by omega) (rV0 ⟨by omega, by omega, lHg (g := g198) (nC_nK (by decide +kernel) (by decide +kernel)) ⟨by decide +kernel, 146, 11459, by omega, by omega, ?_⟩⟩)
  rw [nb]
  refine i19_12 (by omega) (rV0 ?_)
  refine wL_16 (by omega) 1 102 ?_
  intro X A
  refine Wst.wf (fun w => ?_)
  refine law_loop (x := 1) hd hL 64 0 (fun _ => 0) gZ W0 (by omega) (by omega) (gz_cw w) gz_rw gz_ok ?_ ?_ X A
  · rw [show hN gZ = 146 by decide +kernel]; omega
  · rw [show hU gZ = 11459 by decide +kernel]; omega
