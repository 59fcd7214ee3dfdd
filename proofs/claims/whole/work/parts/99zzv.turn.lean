/-! a turn of the law, call by call -/
theorem nI_pl {i k : Nat} {c : Int32} (e : c = nI k) (h : i + k < 2 ^ 31) : nI i + c = nI (i + k) := by
  subst e
  apply Int32.toInt_inj.mp
  rw [Int32.toInt_add, nI_toInt (by omega), nI_toInt (by omega), nI_toInt (by omega)]
  rw [Int.bmod_eq_of_le (by omega) (by omega)]
  omega
theorem vps {i L : Nat} {c : Int32} (k : Nat) (e : c = nI k) (hk : k < 6) (h : i + 6 ≤ L) (hL : L ≤ 384) : vp_in (nI i + c) L := by
  rw [nI_pl e (by omega)]
  exact vp_in_nI (by omega) (by omega)
abbrev Nxt (d E1 E2 L x i : Nat) (xs : Nat → Int32) (h : AH) : Prop := ∀ (p' : Nat → Nat) (h' : AH) (W' : WS), CW (p', h') h' x W' → RW h' (x + 101) W' → wOk W' → hN h' ≤ hN h + 200 → hU h' ≤ hU h + 2000 → LR d E1 E2 L xs (18, [.retAddr 19, .ref x, .ref (x + 101), .int (nI i + 6)], []) h'
section LS
variable {p : Nat → Nat} {d E1 E2 L x i : Nat} {xs : Nat → Int32} {h : AH} {W : WS}
theorem ls_feed (H : AgP p d x h W) (hi : i + 6 ≤ L) (hL : L ≤ 384) (b1 : hN h + 200 ≤ E1) (b2 : hU h + 2000 ≤ E2) (next : Nxt d E1 E2 L x i xs h) : LR d E1 E2 L xs (176, [.retAddr 19, .ref x, .ref (x + 101), .int (nI i)], []) h := by
  obtain ⟨⟨nr, nw, A, fo, y, M, ps, ns⟩, cls, tp, im⟩ := W
  obtain ⟨W', p', r, ok', c, m⟩ := ag_feed (a := xs (Int32.toNatClampNeg (nI i + 1))) (b := xs (Int32.toNatClampNeg (nI i + 2))) (c := xs (Int32.toNatClampNeg (nI i + 3))) (e := xs (Int32.toNatClampNeg (nI i + 4))) (f := xs (Int32.toNatClampNeg (nI i + 5))) H
  have hx : (hS h x).1 = 10 + 11 := by rw [H.1.1.2.1]
  have hd := H.2.2.2
  refine wL_176 (by omega) x (x + 101) (nI i) ⟨rfl, vps 1 (by decide) (by decide) hi hL, rfl, vps 2 (by decide) (by decide) hi hL, rfl, vps 3 (by decide) (by decide) hi hL, rfl, vps 4 (by decide) (by decide) hi hL, rfl, vps 5 (by decide) (by decide) hi hL, hx, c _ (fun h1 n1 u1 C1 => ?_)⟩
  have R1 := H.2.1.eqm C1.2.2.2.2.2.2.2.2
  have hm : (hS h1 (x + 101)).1 = 10 + 12 := by rw [R1.mod.1]
  exact ⟨rfl, vps 1 (by decide) (by decide) hi hL, rfl, vps 2 (by decide) (by decide) hi hL, rfl, vps 3 (by decide) (by decide) hi hL, rfl, vps 4 (by decide) (by decide) hi hL, rfl, vps 5 (by decide) (by decide) hi hL, hm, m h1 _ R1 (fun h2 f R2 => ⟨fun _ => next p' h2 W' (C1.ref f) R2 ok' (by rw [f.2.2.1, n1]; omega) (by rw [f.2.2.2.1, u1]; omega), fun z => absurd rfl z⟩)⟩
theorem ls_end (H : AgP p d x h W) (hi : i + 6 ≤ L) (hL : L ≤ 384) (b1 : hN h + 200 ≤ E1) (b2 : hU h + 2000 ≤ E2) (next : Nxt d E1 E2 L x i xs h) : LR d E1 E2 L xs (239, [.retAddr 19, .ref x, .ref (x + 101), .int (nI i)], []) h := by
  obtain ⟨⟨nr, nw, A, fo, y, M, ps, ns⟩, cls, tp, im⟩ := W
  obtain ⟨W', p', r, ok', c, m⟩ := ag_end (n := xs (Int32.toNatClampNeg (nI i + 1))) H
  have hx : (hS h x).1 = 10 + 11 := by rw [H.1.1.2.1]
  have hd := H.2.2.2
  refine wL_239 (by omega) x (x + 101) (nI i) ⟨rfl, vps 1 (by decide) (by decide) hi hL, hx, c _ (fun h1 n1 u1 C1 => ?_)⟩
  have R1 := H.2.1.eqm C1.2.2.2.2.2.2.2.2
  have hm : (hS h1 (x + 101)).1 = 10 + 12 := by rw [R1.mod.1]
  exact ⟨rfl, vps 1 (by decide) (by decide) hi hL, hm, m h1 _ R1 (fun h2 f R2 => ⟨fun _ => next p' h2 W' (C1.ref f) R2 ok' (by rw [f.2.2.1, n1]; omega) (by rw [f.2.2.2.1, u1]; omega), fun z => absurd rfl z⟩)⟩
theorem ls_hill (H : AgP p d x h W) (hi : i + 6 ≤ L) (hL : L ≤ 384) (b1 : hN h + 200 ≤ E1) (b2 : hU h + 2000 ≤ E2) (next : Nxt d E1 E2 L x i xs h) : LR d E1 E2 L xs (262, [.retAddr 19, .ref x, .ref (x + 101), .int (nI i)], []) h := by
  obtain ⟨⟨nr, nw, A, fo, y, M, ps, ns⟩, cls, tp, im⟩ := W
  obtain ⟨N, U, bN, bU, W', p', r, ok', c, m⟩ := ag_hill  H
  have hx : (hS h x).1 = 10 + 11 := by rw [H.1.1.2.1]
  have hd := H.2.2.2
  refine wL_262 (by omega) x (x + 101) (nI i) ⟨hx, N, U, by omega, by omega, c _ (fun h1 n1 u1 C1 => ?_)⟩
  have R1 := H.2.1.eqm C1.2.2.2.2.2.2.2.2
  have hm : (hS h1 (x + 101)).1 = 10 + 12 := by rw [R1.mod.1]
  exact ⟨hm, m h1 _ R1 (fun h2 f R2 => ⟨fun _ => next p' h2 W' (C1.ref f) R2 ok' (by rw [f.2.2.1, n1]; omega) (by rw [f.2.2.2.1, u1]; omega), fun z => absurd rfl z⟩)⟩
theorem ls_rule (H : AgP p d x h W) (hi : i + 6 ≤ L) (hL : L ≤ 384) (b1 : hN h + 200 ≤ E1) (b2 : hU h + 2000 ≤ E2) (next : Nxt d E1 E2 L x i xs h) : LR d E1 E2 L xs (275, [.retAddr 19, .ref x, .ref (x + 101), .int (nI i)], []) h := by
  obtain ⟨⟨nr, nw, A, fo, y, M, ps, ns⟩, cls, tp, im⟩ := W
  obtain ⟨N, U, bN, bU, W', p', r, ok', c, m⟩ := ag_rule  H
  have hx : (hS h x).1 = 10 + 11 := by rw [H.1.1.2.1]
  have hd := H.2.2.2
  refine wL_275 (by omega) x (x + 101) (nI i) ⟨hx, N, U, by omega, by omega, c _ (fun h1 n1 u1 C1 => ?_)⟩
  have R1 := H.2.1.eqm C1.2.2.2.2.2.2.2.2
  have hm : (hS h1 (x + 101)).1 = 10 + 12 := by rw [R1.mod.1]
  exact ⟨hm, m h1 _ R1 (fun h2 f R2 => ⟨fun _ => next p' h2 W' (C1.ref f) R2 ok' (by rw [f.2.2.1, n1]; omega) (by rw [f.2.2.2.1, u1]; omega), fun z => absurd rfl z⟩)⟩
theorem ls_force (H : AgP p d x h W) (hi : i + 6 ≤ L) (hL : L ≤ 384) (b1 : hN h + 200 ≤ E1) (b2 : hU h + 2000 ≤ E2) (next : Nxt d E1 E2 L x i xs h) : LR d E1 E2 L xs (288, [.retAddr 19, .ref x, .ref (x + 101), .int (nI i)], []) h := by
  obtain ⟨⟨nr, nw, A, fo, y, M, ps, ns⟩, cls, tp, im⟩ := W
  obtain ⟨W', p', r, ok', c, m⟩ := ag_force (n := xs (Int32.toNatClampNeg (nI i + 1))) H
  have hx : (hS h x).1 = 10 + 11 := by rw [H.1.1.2.1]
  have hd := H.2.2.2
  refine wL_288 (by omega) x (x + 101) (nI i) ⟨rfl, vps 1 (by decide) (by decide) hi hL, hx, c _ (fun h1 n1 u1 C1 => ?_)⟩
  have R1 := H.2.1.eqm C1.2.2.2.2.2.2.2.2
  have hm : (hS h1 (x + 101)).1 = 10 + 12 := by rw [R1.mod.1]
  exact ⟨rfl, vps 1 (by decide) (by decide) hi hL, hm, m h1 _ R1 (fun h2 f R2 => ⟨fun _ => next p' h2 W' (C1.ref f) R2 ok' (by rw [f.2.2.1, n1]; omega) (by rw [f.2.2.2.1, u1]; omega), fun z => absurd rfl z⟩)⟩
theorem ls_runner (H : AgP p d x h W) (hi : i + 6 ≤ L) (hL : L ≤ 384) (b1 : hN h + 200 ≤ E1) (b2 : hU h + 2000 ≤ E2) (next : Nxt d E1 E2 L x i xs h) : LR d E1 E2 L xs (311, [.retAddr 19, .ref x, .ref (x + 101), .int (nI i)], []) h := by
  obtain ⟨⟨nr, nw, A, fo, y, M, ps, ns⟩, cls, tp, im⟩ := W
  obtain ⟨W', p', r, ok', c, m⟩ := ag_runner (q := xs (Int32.toNatClampNeg (nI i + 1))) (w := xs (Int32.toNatClampNeg (nI i + 2))) H
  have hx : (hS h x).1 = 10 + 11 := by rw [H.1.1.2.1]
  have hd := H.2.2.2
  refine wL_311 (by omega) x (x + 101) (nI i) ⟨rfl, vps 1 (by decide) (by decide) hi hL, rfl, vps 2 (by decide) (by decide) hi hL, hx, c _ (fun h1 n1 u1 C1 => ?_)⟩
  have R1 := H.2.1.eqm C1.2.2.2.2.2.2.2.2
  have hm : (hS h1 (x + 101)).1 = 10 + 12 := by rw [R1.mod.1]
  exact ⟨rfl, vps 1 (by decide) (by decide) hi hL, rfl, vps 2 (by decide) (by decide) hi hL, hm, m h1 _ R1 (fun h2 f R2 => ⟨fun _ => next p' h2 W' (C1.ref f) R2 ok' (by rw [f.2.2.1, n1]; omega) (by rw [f.2.2.2.1, u1]; omega), fun z => absurd rfl z⟩)⟩
theorem ls_ware (H : AgP p d x h W) (hi : i + 6 ≤ L) (hL : L ≤ 384) (b1 : hN h + 200 ≤ E1) (b2 : hU h + 2000 ≤ E2) (next : Nxt d E1 E2 L x i xs h) : LR d E1 E2 L xs (344, [.retAddr 19, .ref x, .ref (x + 101), .int (nI i)], []) h := by
  obtain ⟨⟨nr, nw, A, fo, y, M, ps, ns⟩, cls, tp, im⟩ := W
  obtain ⟨W', p', r, ok', c, m⟩ := ag_ware (q := xs (Int32.toNatClampNeg (nI i + 1))) (w := xs (Int32.toNatClampNeg (nI i + 2))) H
  have hx : (hS h x).1 = 10 + 11 := by rw [H.1.1.2.1]
  have hd := H.2.2.2
  refine wL_344 (by omega) x (x + 101) (nI i) ⟨rfl, vps 1 (by decide) (by decide) hi hL, rfl, vps 2 (by decide) (by decide) hi hL, hx, c _ (fun h1 n1 u1 C1 => ?_)⟩
  have R1 := H.2.1.eqm C1.2.2.2.2.2.2.2.2
  have hm : (hS h1 (x + 101)).1 = 10 + 12 := by rw [R1.mod.1]
  exact ⟨rfl, vps 1 (by decide) (by decide) hi hL, rfl, vps 2 (by decide) (by decide) hi hL, hm, m h1 _ R1 (fun h2 f R2 => ⟨fun _ => next p' h2 W' (C1.ref f) R2 ok' (by rw [f.2.2.1, n1]; omega) (by rw [f.2.2.2.1, u1]; omega), fun z => absurd rfl z⟩)⟩
theorem ls_day (H : AgP p d x h W) (hi : i + 6 ≤ L) (hL : L ≤ 384) (b1 : hN h + 200 ≤ E1) (b2 : hU h + 2000 ≤ E2) (next : Nxt d E1 E2 L x i xs h) : LR d E1 E2 L xs (377, [.retAddr 19, .ref x, .ref (x + 101), .int (nI i)], []) h := by
  obtain ⟨⟨nr, nw, A, fo, y, M, ps, ns⟩, cls, tp, im⟩ := W
  obtain ⟨N, U, bN, bU, W', p', r, ok', c, m⟩ := ag_day  H
  have hx : (hS h x).1 = 10 + 11 := by rw [H.1.1.2.1]
  have hd := H.2.2.2
  refine wL_377 (by omega) x (x + 101) (nI i) ⟨hx, N, U, by omega, by omega, c _ (fun h1 n1 u1 C1 => ?_)⟩
  have R1 := H.2.1.eqm C1.2.2.2.2.2.2.2.2
  have hm : (hS h1 (x + 101)).1 = 10 + 12 := by rw [R1.mod.1]
  exact ⟨hm, m h1 _ R1 (fun h2 f R2 => ⟨fun _ => next p' h2 W' (C1.ref f) R2 ok' (by rw [f.2.2.1, n1]; omega) (by rw [f.2.2.2.1, u1]; omega), fun z => absurd rfl z⟩)⟩
theorem ls_lend (H : AgP p d x h W) (hi : i + 6 ≤ L) (hL : L ≤ 384) (b1 : hN h + 200 ≤ E1) (b2 : hU h + 2000 ≤ E2) (next : Nxt d E1 E2 L x i xs h) : LR d E1 E2 L xs (390, [.retAddr 19, .ref x, .ref (x + 101), .int (nI i)], []) h := by
  obtain ⟨⟨nr, nw, A, fo, y, M, ps, ns⟩, cls, tp, im⟩ := W
  obtain ⟨N, U, bN, bU, W', p', r, ok', c, m⟩ := ag_lend (a := xs (Int32.toNatClampNeg (nI i + 1))) (b := xs (Int32.toNatClampNeg (nI i + 2))) (c := xs (Int32.toNatClampNeg (nI i + 3))) H
  have hx : (hS h x).1 = 10 + 11 := by rw [H.1.1.2.1]
  have hd := H.2.2.2
  refine wL_390 (by omega) x (x + 101) (nI i) ⟨rfl, vps 1 (by decide) (by decide) hi hL, rfl, vps 2 (by decide) (by decide) hi hL, rfl, vps 3 (by decide) (by decide) hi hL, hx, N, U, by omega, by omega, c _ (fun h1 n1 u1 C1 => ?_)⟩
  have R1 := H.2.1.eqm C1.2.2.2.2.2.2.2.2
  have hm : (hS h1 (x + 101)).1 = 10 + 12 := by rw [R1.mod.1]
  exact ⟨rfl, vps 1 (by decide) (by decide) hi hL, rfl, vps 2 (by decide) (by decide) hi hL, rfl, vps 3 (by decide) (by decide) hi hL, hm, m h1 _ R1 (fun h2 f R2 => ⟨fun _ => next p' h2 W' (C1.ref f) R2 ok' (by rw [f.2.2.1, n1]; omega) (by rw [f.2.2.2.1, u1]; omega), fun z => absurd rfl z⟩)⟩
theorem ls_fall (H : AgP p d x h W) (hi : i + 6 ≤ L) (hL : L ≤ 384) (b1 : hN h + 200 ≤ E1) (b2 : hU h + 2000 ≤ E2) (next : Nxt d E1 E2 L x i xs h) : LR d E1 E2 L xs (433, [.retAddr 19, .ref x, .ref (x + 101), .int (nI i)], []) h := by
  obtain ⟨⟨nr, nw, A, fo, y, M, ps, ns⟩, cls, tp, im⟩ := W
  obtain ⟨N, U, bN, bU, W', p', r, ok', c, m⟩ := ag_fall (q := xs (Int32.toNatClampNeg (nI i + 1))) H
  have hx : (hS h x).1 = 10 + 11 := by rw [H.1.1.2.1]
  have hd := H.2.2.2
  refine wL_433 (by omega) x (x + 101) (nI i) ⟨rfl, vps 1 (by decide) (by decide) hi hL, hx, N, U, by omega, by omega, c _ (fun h1 n1 u1 C1 => ?_)⟩
  have R1 := H.2.1.eqm C1.2.2.2.2.2.2.2.2
  have hm : (hS h1 (x + 101)).1 = 10 + 12 := by rw [R1.mod.1]
  exact ⟨rfl, vps 1 (by decide) (by decide) hi hL, hm, m h1 _ R1 (fun h2 f R2 => ⟨fun _ => next p' h2 W' (C1.ref f) R2 ok' (by rw [f.2.2.1, n1]; omega) (by rw [f.2.2.2.1, u1]; omega), fun z => absurd rfl z⟩)⟩
theorem ls_shift (H : AgP p d x h W) (hi : i + 6 ≤ L) (hL : L ≤ 384) (b1 : hN h + 200 ≤ E1) (b2 : hU h + 2000 ≤ E2) (next : Nxt d E1 E2 L x i xs h) : LR d E1 E2 L xs (456, [.retAddr 19, .ref x, .ref (x + 101), .int (nI i)], []) h := by
  obtain ⟨⟨nr, nw, A, fo, y, M, ps, ns⟩, cls, tp, im⟩ := W
  obtain ⟨N, U, bN, bU, W', p', r, ok', c, m⟩ := ag_shift (q := xs (Int32.toNatClampNeg (nI i + 1))) (v := xs (Int32.toNatClampNeg (nI i + 2))) H
  have hx : (hS h x).1 = 10 + 11 := by rw [H.1.1.2.1]
  have hd := H.2.2.2
  refine wL_456 (by omega) x (x + 101) (nI i) ⟨rfl, vps 1 (by decide) (by decide) hi hL, rfl, vps 2 (by decide) (by decide) hi hL, hx, N, U, by omega, by omega, c _ (fun h1 n1 u1 C1 => ?_)⟩
  have R1 := H.2.1.eqm C1.2.2.2.2.2.2.2.2
  have hm : (hS h1 (x + 101)).1 = 10 + 12 := by rw [R1.mod.1]
  exact ⟨rfl, vps 1 (by decide) (by decide) hi hL, rfl, vps 2 (by decide) (by decide) hi hL, hm, m h1 _ R1 (fun h2 f R2 => ⟨fun _ => next p' h2 W' (C1.ref f) R2 ok' (by rw [f.2.2.1, n1]; omega) (by rw [f.2.2.2.1, u1]; omega), fun z => absurd rfl z⟩)⟩
theorem ls_train (H : AgP p d x h W) (hi : i + 6 ≤ L) (hL : L ≤ 384) (b1 : hN h + 200 ≤ E1) (b2 : hU h + 2000 ≤ E2) (next : Nxt d E1 E2 L x i xs h) : LR d E1 E2 L xs (489, [.retAddr 19, .ref x, .ref (x + 101), .int (nI i)], []) h := by
  obtain ⟨⟨nr, nw, A, fo, y, M, ps, ns⟩, cls, tp, im⟩ := W
  obtain ⟨N, U, bN, bU, W', p', r, ok', c, m⟩ := ag_train (q := xs (Int32.toNatClampNeg (nI i + 1))) (v := xs (Int32.toNatClampNeg (nI i + 2))) H
  have hx : (hS h x).1 = 10 + 11 := by rw [H.1.1.2.1]
  have hd := H.2.2.2
  refine wL_489 (by omega) x (x + 101) (nI i) ⟨rfl, vps 1 (by decide) (by decide) hi hL, rfl, vps 2 (by decide) (by decide) hi hL, hx, N, U, by omega, by omega, c _ (fun h1 n1 u1 C1 => ?_)⟩
  have R1 := H.2.1.eqm C1.2.2.2.2.2.2.2.2
  have hm : (hS h1 (x + 101)).1 = 10 + 12 := by rw [R1.mod.1]
  exact ⟨rfl, vps 1 (by decide) (by decide) hi hL, rfl, vps 2 (by decide) (by decide) hi hL, hm, m h1 _ R1 (fun h2 f R2 => ⟨fun _ => next p' h2 W' (C1.ref f) R2 ok' (by rw [f.2.2.1, n1]; omega) (by rw [f.2.2.2.1, u1]; omega), fun z => absurd rfl z⟩)⟩
theorem ls_undo (H : AgP p d x h W) (hi : i + 6 ≤ L) (hL : L ≤ 384) (b1 : hN h + 200 ≤ E1) (b2 : hU h + 2000 ≤ E2) (next : Nxt d E1 E2 L x i xs h) : LR d E1 E2 L xs (522, [.retAddr 19, .ref x, .ref (x + 101), .int (nI i)], []) h := by
  obtain ⟨⟨nr, nw, A, fo, y, M, ps, ns⟩, cls, tp, im⟩ := W
  obtain ⟨W', p', r, ok', c, m⟩ := ag_undo  H
  have hx : (hS h x).1 = 10 + 11 := by rw [H.1.1.2.1]
  have hd := H.2.2.2
  refine wL_522 (by omega) x (x + 101) (nI i) ⟨hx, c _ (fun h1 n1 u1 C1 => ?_)⟩
  have R1 := H.2.1.eqm C1.2.2.2.2.2.2.2.2
  have hm : (hS h1 (x + 101)).1 = 10 + 12 := by rw [R1.mod.1]
  exact ⟨hm, m h1 _ R1 (fun h2 f R2 => ⟨fun _ => next p' h2 W' (C1.ref f) R2 ok' (by rw [f.2.2.1, n1]; omega) (by rw [f.2.2.2.1, u1]; omega), fun z => absurd rfl z⟩)⟩
theorem ls_ahead (H : AgP p d x h W) (hi : i + 6 ≤ L) (hL : L ≤ 384) (b1 : hN h + 200 ≤ E1) (b2 : hU h + 2000 ≤ E2) (next : Nxt d E1 E2 L x i xs h) : LR d E1 E2 L xs (535, [.retAddr 19, .ref x, .ref (x + 101), .int (nI i)], []) h := by
  obtain ⟨⟨nr, nw, A, fo, y, M, ps, ns⟩, cls, tp, im⟩ := W
  obtain ⟨W', p', r, ok', c, m⟩ := ag_ahead (q := xs (Int32.toNatClampNeg (nI i + 1))) (n := xs (Int32.toNatClampNeg (nI i + 2))) (w := xs (Int32.toNatClampNeg (nI i + 3))) H
  have hx : (hS h x).1 = 10 + 11 := by rw [H.1.1.2.1]
  have hd := H.2.2.2
  refine wL_535 (by omega) x (x + 101) (nI i) ⟨rfl, vps 1 (by decide) (by decide) hi hL, rfl, vps 2 (by decide) (by decide) hi hL, rfl, vps 3 (by decide) (by decide) hi hL, hx, c _ (fun h1 n1 u1 C1 => ?_)⟩
  have R1 := H.2.1.eqm C1.2.2.2.2.2.2.2.2
  have hm : (hS h1 (x + 101)).1 = 10 + 12 := by rw [R1.mod.1]
  exact ⟨rfl, vps 1 (by decide) (by decide) hi hL, rfl, vps 2 (by decide) (by decide) hi hL, rfl, vps 3 (by decide) (by decide) hi hL, hm, m h1 _ R1 (fun h2 f R2 => ⟨fun _ => next p' h2 W' (C1.ref f) R2 ok' (by rw [f.2.2.1, n1]; omega) (by rw [f.2.2.2.1, u1]; omega), fun z => absurd rfl z⟩)⟩
theorem ls_gets (H : AgP p d x h W) (hi : i + 6 ≤ L) (hL : L ≤ 384) (b1 : hN h + 200 ≤ E1) (b2 : hU h + 2000 ≤ E2) (next : Nxt d E1 E2 L x i xs h) : LR d E1 E2 L xs (578, [.retAddr 19, .ref x, .ref (x + 101), .int (nI i)], []) h := by
  obtain ⟨⟨nr, nw, A, fo, y, M, ps, ns⟩, cls, tp, im⟩ := W
  obtain ⟨W', p', r, ok', c, m⟩ := ag_gets (q := xs (Int32.toNatClampNeg (nI i + 1))) (w := xs (Int32.toNatClampNeg (nI i + 2))) H
  have hx : (hS h x).1 = 10 + 11 := by rw [H.1.1.2.1]
  have hd := H.2.2.2
  refine wL_578 (by omega) x (x + 101) (nI i) ⟨rfl, vps 1 (by decide) (by decide) hi hL, rfl, vps 2 (by decide) (by decide) hi hL, hx, c _ (fun h1 n1 u1 C1 => ?_)⟩
  have R1 := H.2.1.eqm C1.2.2.2.2.2.2.2.2
  have hm : (hS h1 (x + 101)).1 = 10 + 12 := by rw [R1.mod.1]
  exact ⟨rfl, vps 1 (by decide) (by decide) hi hL, rfl, vps 2 (by decide) (by decide) hi hL, hm, m h1 _ R1 (fun h2 f R2 => ⟨fun _ => next p' h2 W' (C1.ref f) R2 ok' (by rw [f.2.2.1, n1]; omega) (by rw [f.2.2.2.1, u1]; omega), fun z => absurd rfl z⟩)⟩
theorem ls_rank (H : AgP p d x h W) (hi : i + 6 ≤ L) (hL : L ≤ 384) (b1 : hN h + 200 ≤ E1) (b2 : hU h + 2000 ≤ E2) (next : Nxt d E1 E2 L x i xs h) : LR d E1 E2 L xs (611, [.retAddr 19, .ref x, .ref (x + 101), .int (nI i)], []) h := by
  obtain ⟨⟨nr, nw, A, fo, y, M, ps, ns⟩, cls, tp, im⟩ := W
  obtain ⟨W', p', r, ok', c, m⟩ := ag_rank (q := xs (Int32.toNatClampNeg (nI i + 1))) (w := xs (Int32.toNatClampNeg (nI i + 2))) H
  have hx : (hS h x).1 = 10 + 11 := by rw [H.1.1.2.1]
  have hd := H.2.2.2
  refine wL_611 (by omega) x (x + 101) (nI i) ⟨rfl, vps 1 (by decide) (by decide) hi hL, rfl, vps 2 (by decide) (by decide) hi hL, hx, c _ (fun h1 n1 u1 C1 => ?_)⟩
  have R1 := H.2.1.eqm C1.2.2.2.2.2.2.2.2
  have hm : (hS h1 (x + 101)).1 = 10 + 12 := by rw [R1.mod.1]
  exact ⟨rfl, vps 1 (by decide) (by decide) hi hL, rfl, vps 2 (by decide) (by decide) hi hL, hm, m h1 _ R1 (fun h2 f R2 => ⟨fun _ => next p' h2 W' (C1.ref f) R2 ok' (by rw [f.2.2.1, n1]; omega) (by rw [f.2.2.2.1, u1]; omega), fun z => absurd rfl z⟩)⟩
theorem ls_need (H : AgP p d x h W) (hi : i + 6 ≤ L) (hL : L ≤ 384) (b1 : hN h + 200 ≤ E1) (b2 : hU h + 2000 ≤ E2) (next : Nxt d E1 E2 L x i xs h) : LR d E1 E2 L xs (644, [.retAddr 19, .ref x, .ref (x + 101), .int (nI i)], []) h := by
  obtain ⟨⟨nr, nw, A, fo, y, M, ps, ns⟩, cls, tp, im⟩ := W
  obtain ⟨W', p', r, ok', c, m⟩ := ag_need (q := xs (Int32.toNatClampNeg (nI i + 1))) (n := xs (Int32.toNatClampNeg (nI i + 2))) (w := xs (Int32.toNatClampNeg (nI i + 3))) H
  have hx : (hS h x).1 = 10 + 11 := by rw [H.1.1.2.1]
  have hd := H.2.2.2
  refine wL_644 (by omega) x (x + 101) (nI i) ⟨rfl, vps 1 (by decide) (by decide) hi hL, rfl, vps 2 (by decide) (by decide) hi hL, rfl, vps 3 (by decide) (by decide) hi hL, hx, c _ (fun h1 n1 u1 C1 => ?_)⟩
  have R1 := H.2.1.eqm C1.2.2.2.2.2.2.2.2
  have hm : (hS h1 (x + 101)).1 = 10 + 12 := by rw [R1.mod.1]
  exact ⟨rfl, vps 1 (by decide) (by decide) hi hL, rfl, vps 2 (by decide) (by decide) hi hL, rfl, vps 3 (by decide) (by decide) hi hL, hm, m h1 _ R1 (fun h2 f R2 => ⟨fun _ => next p' h2 W' (C1.ref f) R2 ok' (by rw [f.2.2.1, n1]; omega) (by rw [f.2.2.2.1, u1]; omega), fun z => absurd rfl z⟩)⟩
theorem ls_lender (H : AgP p d x h W) (hi : i + 6 ≤ L) (hL : L ≤ 384) (b1 : hN h + 200 ≤ E1) (b2 : hU h + 2000 ≤ E2) (next : Nxt d E1 E2 L x i xs h) : LR d E1 E2 L xs (687, [.retAddr 19, .ref x, .ref (x + 101), .int (nI i)], []) h := by
  obtain ⟨⟨nr, nw, A, fo, y, M, ps, ns⟩, cls, tp, im⟩ := W
  obtain ⟨W', p', r, ok', c, m⟩ := ag_lender (q := xs (Int32.toNatClampNeg (nI i + 1))) (n := xs (Int32.toNatClampNeg (nI i + 2))) (w := xs (Int32.toNatClampNeg (nI i + 3))) H
  have hx : (hS h x).1 = 10 + 11 := by rw [H.1.1.2.1]
  have hd := H.2.2.2
  refine wL_687 (by omega) x (x + 101) (nI i) ⟨rfl, vps 1 (by decide) (by decide) hi hL, rfl, vps 2 (by decide) (by decide) hi hL, rfl, vps 3 (by decide) (by decide) hi hL, hx, c _ (fun h1 n1 u1 C1 => ?_)⟩
  have R1 := H.2.1.eqm C1.2.2.2.2.2.2.2.2
  have hm : (hS h1 (x + 101)).1 = 10 + 12 := by rw [R1.mod.1]
  exact ⟨rfl, vps 1 (by decide) (by decide) hi hL, rfl, vps 2 (by decide) (by decide) hi hL, rfl, vps 3 (by decide) (by decide) hi hL, hm, m h1 _ R1 (fun h2 f R2 => ⟨fun _ => next p' h2 W' (C1.ref f) R2 ok' (by rw [f.2.2.1, n1]; omega) (by rw [f.2.2.2.1, u1]; omega), fun z => absurd rfl z⟩)⟩
theorem ls_row (H : AgP p d x h W) (hi : i + 6 ≤ L) (hL : L ≤ 384) (b1 : hN h + 200 ≤ E1) (b2 : hU h + 2000 ≤ E2) (next : Nxt d E1 E2 L x i xs h) : LR d E1 E2 L xs (730, [.retAddr 19, .ref x, .ref (x + 101), .int (nI i)], []) h := by
  obtain ⟨⟨nr, nw, A, fo, y, M, ps, ns⟩, cls, tp, im⟩ := W
  obtain ⟨W', p', r, ok', c, m⟩ := ag_row (q := xs (Int32.toNatClampNeg (nI i + 1))) (n := xs (Int32.toNatClampNeg (nI i + 2))) (w := xs (Int32.toNatClampNeg (nI i + 3))) H
  have hx : (hS h x).1 = 10 + 11 := by rw [H.1.1.2.1]
  have hd := H.2.2.2
  refine wL_730 (by omega) x (x + 101) (nI i) ⟨rfl, vps 1 (by decide) (by decide) hi hL, rfl, vps 2 (by decide) (by decide) hi hL, rfl, vps 3 (by decide) (by decide) hi hL, hx, c _ (fun h1 n1 u1 C1 => ?_)⟩
  have R1 := H.2.1.eqm C1.2.2.2.2.2.2.2.2
  have hm : (hS h1 (x + 101)).1 = 10 + 12 := by rw [R1.mod.1]
  exact ⟨rfl, vps 1 (by decide) (by decide) hi hL, rfl, vps 2 (by decide) (by decide) hi hL, rfl, vps 3 (by decide) (by decide) hi hL, hm, m h1 _ R1 (fun h2 f R2 => ⟨fun _ => next p' h2 W' (C1.ref f) R2 ok' (by rw [f.2.2.1, n1]; omega) (by rw [f.2.2.2.1, u1]; omega), fun z => absurd rfl z⟩)⟩
theorem ls_settle (H : AgP p d x h W) (hi : i + 6 ≤ L) (hL : L ≤ 384) (b1 : hN h + 200 ≤ E1) (b2 : hU h + 2000 ≤ E2) (next : Nxt d E1 E2 L x i xs h) : LR d E1 E2 L xs (773, [.retAddr 19, .ref x, .ref (x + 101), .int (nI i)], []) h := by
  obtain ⟨⟨nr, nw, A, fo, y, M, ps, ns⟩, cls, tp, im⟩ := W
  obtain ⟨W', p', r, ok', c, m⟩ := ag_settle  H
  have hx : (hS h x).1 = 10 + 11 := by rw [H.1.1.2.1]
  have hd := H.2.2.2
  refine wL_773 (by omega) x (x + 101) (nI i) ⟨hx, c _ (fun h1 n1 u1 C1 => ?_)⟩
  have R1 := H.2.1.eqm C1.2.2.2.2.2.2.2.2
  have hm : (hS h1 (x + 101)).1 = 10 + 12 := by rw [R1.mod.1]
  exact ⟨hm, m h1 _ R1 (fun h2 f R2 => ⟨fun _ => next p' h2 W' (C1.ref f) R2 ok' (by rw [f.2.2.1, n1]; omega) (by rw [f.2.2.2.1, u1]; omega), fun z => absurd rfl z⟩)⟩
theorem ls_rings (H : AgP p d x h W) (hi : i + 6 ≤ L) (hL : L ≤ 384) (b1 : hN h + 200 ≤ E1) (b2 : hU h + 2000 ≤ E2) (next : Nxt d E1 E2 L x i xs h) : LR d E1 E2 L xs (786, [.retAddr 19, .ref x, .ref (x + 101), .int (nI i)], []) h := by
  obtain ⟨⟨nr, nw, A, fo, y, M, ps, ns⟩, cls, tp, im⟩ := W
  obtain ⟨W', p', r, ok', c, m⟩ := ag_rings (w := xs (Int32.toNatClampNeg (nI i + 1))) H
  have hx : (hS h x).1 = 10 + 11 := by rw [H.1.1.2.1]
  have hd := H.2.2.2
  refine wL_786 (by omega) x (x + 101) (nI i) ⟨rfl, vps 1 (by decide) (by decide) hi hL, hx, c _ (fun h1 n1 u1 C1 => ?_)⟩
  have R1 := H.2.1.eqm C1.2.2.2.2.2.2.2.2
  have hm : (hS h1 (x + 101)).1 = 10 + 12 := by rw [R1.mod.1]
  exact ⟨rfl, vps 1 (by decide) (by decide) hi hL, hm, m h1 _ R1 (fun h2 f R2 => ⟨fun _ => next p' h2 W' (C1.ref f) R2 ok' (by rw [f.2.2.1, n1]; omega) (by rw [f.2.2.2.1, u1]; omega), fun z => absurd rfl z⟩)⟩
theorem ls_had (H : AgP p d x h W) (hi : i + 6 ≤ L) (hL : L ≤ 384) (b1 : hN h + 200 ≤ E1) (b2 : hU h + 2000 ≤ E2) (next : Nxt d E1 E2 L x i xs h) : LR d E1 E2 L xs (809, [.retAddr 19, .ref x, .ref (x + 101), .int (nI i)], []) h := by
  obtain ⟨⟨nr, nw, A, fo, y, M, ps, ns⟩, cls, tp, im⟩ := W
  obtain ⟨W', p', r, ok', c, m⟩ := ag_had (q := xs (Int32.toNatClampNeg (nI i + 1))) (n := xs (Int32.toNatClampNeg (nI i + 2))) (b := xs (Int32.toNatClampNeg (nI i + 3))) (w := xs (Int32.toNatClampNeg (nI i + 4))) H
  have hx : (hS h x).1 = 10 + 11 := by rw [H.1.1.2.1]
  have hd := H.2.2.2
  refine wL_809 (by omega) x (x + 101) (nI i) ⟨rfl, vps 1 (by decide) (by decide) hi hL, rfl, vps 2 (by decide) (by decide) hi hL, rfl, vps 3 (by decide) (by decide) hi hL, rfl, vps 4 (by decide) (by decide) hi hL, hx, c _ (fun h1 n1 u1 C1 => ?_)⟩
  have R1 := H.2.1.eqm C1.2.2.2.2.2.2.2.2
  have hm : (hS h1 (x + 101)).1 = 10 + 12 := by rw [R1.mod.1]
  exact ⟨rfl, vps 1 (by decide) (by decide) hi hL, rfl, vps 2 (by decide) (by decide) hi hL, rfl, vps 3 (by decide) (by decide) hi hL, rfl, vps 4 (by decide) (by decide) hi hL, hm, m h1 _ R1 (fun h2 f R2 => ⟨fun _ => next p' h2 W' (C1.ref f) R2 ok' (by rw [f.2.2.1, n1]; omega) (by rw [f.2.2.2.1, u1]; omega), fun z => absurd rfl z⟩)⟩
theorem ls_rests (H : AgP p d x h W) (hi : i + 6 ≤ L) (hL : L ≤ 384) (b1 : hN h + 200 ≤ E1) (b2 : hU h + 2000 ≤ E2) (next : Nxt d E1 E2 L x i xs h) : LR d E1 E2 L xs (862, [.retAddr 19, .ref x, .ref (x + 101), .int (nI i)], []) h := by
  obtain ⟨⟨nr, nw, A, fo, y, M, ps, ns⟩, cls, tp, im⟩ := W
  obtain ⟨W', p', r, ok', c, m⟩ := ag_rests (q := xs (Int32.toNatClampNeg (nI i + 1))) (n := xs (Int32.toNatClampNeg (nI i + 2))) (w := xs (Int32.toNatClampNeg (nI i + 3))) H
  have hx : (hS h x).1 = 10 + 11 := by rw [H.1.1.2.1]
  have hd := H.2.2.2
  refine wL_862 (by omega) x (x + 101) (nI i) ⟨rfl, vps 1 (by decide) (by decide) hi hL, rfl, vps 2 (by decide) (by decide) hi hL, rfl, vps 3 (by decide) (by decide) hi hL, hx, c _ (fun h1 n1 u1 C1 => ?_)⟩
  have R1 := H.2.1.eqm C1.2.2.2.2.2.2.2.2
  have hm : (hS h1 (x + 101)).1 = 10 + 12 := by rw [R1.mod.1]
  exact ⟨rfl, vps 1 (by decide) (by decide) hi hL, rfl, vps 2 (by decide) (by decide) hi hL, rfl, vps 3 (by decide) (by decide) hi hL, hm, m h1 _ R1 (fun h2 f R2 => ⟨fun _ => next p' h2 W' (C1.ref f) R2 ok' (by rw [f.2.2.1, n1]; omega) (by rw [f.2.2.2.1, u1]; omega), fun z => absurd rfl z⟩)⟩
theorem ls_pence (H : AgP p d x h W) (hi : i + 6 ≤ L) (hL : L ≤ 384) (b1 : hN h + 200 ≤ E1) (b2 : hU h + 2000 ≤ E2) (next : Nxt d E1 E2 L x i xs h) : LR d E1 E2 L xs (905, [.retAddr 19, .ref x, .ref (x + 101), .int (nI i)], []) h := by
  obtain ⟨⟨nr, nw, A, fo, y, M, ps, ns⟩, cls, tp, im⟩ := W
  obtain ⟨W', p', r, ok', c, m⟩ := ag_pence (q := xs (Int32.toNatClampNeg (nI i + 1))) (w := xs (Int32.toNatClampNeg (nI i + 2))) H
  have hx : (hS h x).1 = 10 + 11 := by rw [H.1.1.2.1]
  have hd := H.2.2.2
  refine wL_905 (by omega) x (x + 101) (nI i) ⟨rfl, vps 1 (by decide) (by decide) hi hL, rfl, vps 2 (by decide) (by decide) hi hL, hx, c _ (fun h1 n1 u1 C1 => ?_)⟩
  have R1 := H.2.1.eqm C1.2.2.2.2.2.2.2.2
  have hm : (hS h1 (x + 101)).1 = 10 + 12 := by rw [R1.mod.1]
  exact ⟨rfl, vps 1 (by decide) (by decide) hi hL, rfl, vps 2 (by decide) (by decide) hi hL, hm, m h1 _ R1 (fun h2 f R2 => ⟨fun _ => next p' h2 W' (C1.ref f) R2 ok' (by rw [f.2.2.1, n1]; omega) (by rw [f.2.2.2.1, u1]; omega), fun z => absurd rfl z⟩)⟩
theorem ls_note (H : AgP p d x h W) (hi : i + 6 ≤ L) (hL : L ≤ 384) (b1 : hN h + 200 ≤ E1) (b2 : hU h + 2000 ≤ E2) (next : Nxt d E1 E2 L x i xs h) : LR d E1 E2 L xs (938, [.retAddr 19, .ref x, .ref (x + 101), .int (nI i)], []) h := by
  obtain ⟨⟨nr, nw, A, fo, y, M, ps, ns⟩, cls, tp, im⟩ := W
  obtain ⟨W', p', r, ok', c, m⟩ := ag_note (n := xs (Int32.toNatClampNeg (nI i + 1))) (w := xs (Int32.toNatClampNeg (nI i + 2))) (q := xs (Int32.toNatClampNeg (nI i + 3))) H
  have hx : (hS h x).1 = 10 + 11 := by rw [H.1.1.2.1]
  have hd := H.2.2.2
  refine wL_938 (by omega) x (x + 101) (nI i) ⟨rfl, vps 1 (by decide) (by decide) hi hL, rfl, vps 2 (by decide) (by decide) hi hL, rfl, vps 3 (by decide) (by decide) hi hL, hx, c _ (fun h1 n1 u1 C1 => ?_)⟩
  have R1 := H.2.1.eqm C1.2.2.2.2.2.2.2.2
  have hm : (hS h1 (x + 101)).1 = 10 + 12 := by rw [R1.mod.1]
  exact ⟨rfl, vps 1 (by decide) (by decide) hi hL, rfl, vps 2 (by decide) (by decide) hi hL, rfl, vps 3 (by decide) (by decide) hi hL, hm, m h1 _ R1 (fun h2 f R2 => ⟨fun _ => next p' h2 W' (C1.ref f) R2 ok' (by rw [f.2.2.1, n1]; omega) (by rw [f.2.2.2.1, u1]; omega), fun z => absurd rfl z⟩)⟩
theorem ls_ruled (H : AgP p d x h W) (hi : i + 6 ≤ L) (hL : L ≤ 384) (b1 : hN h + 200 ≤ E1) (b2 : hU h + 2000 ≤ E2) (next : Nxt d E1 E2 L x i xs h) : LR d E1 E2 L xs (981, [.retAddr 19, .ref x, .ref (x + 101), .int (nI i)], []) h := by
  obtain ⟨⟨nr, nw, A, fo, y, M, ps, ns⟩, cls, tp, im⟩ := W
  obtain ⟨W', p', r, ok', c, m⟩ := ag_ruled (w := xs (Int32.toNatClampNeg (nI i + 1))) H
  have hx : (hS h x).1 = 10 + 11 := by rw [H.1.1.2.1]
  have hd := H.2.2.2
  refine wL_981 (by omega) x (x + 101) (nI i) ⟨rfl, vps 1 (by decide) (by decide) hi hL, hx, c _ (fun h1 n1 u1 C1 => ?_)⟩
  have R1 := H.2.1.eqm C1.2.2.2.2.2.2.2.2
  have hm : (hS h1 (x + 101)).1 = 10 + 12 := by rw [R1.mod.1]
  exact ⟨rfl, vps 1 (by decide) (by decide) hi hL, hm, m h1 _ R1 (fun h2 f R2 => ⟨fun _ => next p' h2 W' (C1.ref f) R2 ok' (by rw [f.2.2.1, n1]; omega) (by rw [f.2.2.2.1, u1]; omega), fun z => absurd rfl z⟩)⟩
theorem ls_look (H : AgP p d x h W) (hi : i + 6 ≤ L) (hL : L ≤ 384) (b1 : hN h + 200 ≤ E1) (b2 : hU h + 2000 ≤ E2) (next : Nxt d E1 E2 L x i xs h) : LR d E1 E2 L xs (1004, [.retAddr 19, .ref x, .ref (x + 101), .int (nI i)], []) h := by
  obtain ⟨⟨nr, nw, A, fo, y, M, ps, ns⟩, cls, tp, im⟩ := W
  obtain ⟨W', p', r, ok', c, m⟩ := ag_look (n := xs (Int32.toNatClampNeg (nI i + 1))) (w := xs (Int32.toNatClampNeg (nI i + 2))) H
  have hx : (hS h x).1 = 10 + 11 := by rw [H.1.1.2.1]
  have hd := H.2.2.2
  refine wL_1004 (by omega) x (x + 101) (nI i) ⟨rfl, vps 1 (by decide) (by decide) hi hL, rfl, vps 2 (by decide) (by decide) hi hL, hx, c _ (fun h1 n1 u1 C1 => ?_)⟩
  have R1 := H.2.1.eqm C1.2.2.2.2.2.2.2.2
  have hm : (hS h1 (x + 101)).1 = 10 + 12 := by rw [R1.mod.1]
  exact ⟨rfl, vps 1 (by decide) (by decide) hi hL, rfl, vps 2 (by decide) (by decide) hi hL, hm, m h1 _ R1 (fun h2 f R2 => ⟨fun _ => next p' h2 W' (C1.ref f) R2 ok' (by rw [f.2.2.1, n1]; omega) (by rw [f.2.2.2.1, u1]; omega), fun z => absurd rfl z⟩)⟩
theorem ls_seed (H : AgP p d x h W) (hi : i + 6 ≤ L) (hL : L ≤ 384) (b1 : hN h + 200 ≤ E1) (b2 : hU h + 2000 ≤ E2) (next : Nxt d E1 E2 L x i xs h) : LR d E1 E2 L xs (1037, [.retAddr 19, .ref x, .ref (x + 101), .int (nI i)], []) h := by
  obtain ⟨⟨nr, nw, A, fo, y, M, ps, ns⟩, cls, tp, im⟩ := W
  obtain ⟨W', p', r, ok', c, m⟩ := ag_seed (n := xs (Int32.toNatClampNeg (nI i + 1))) H
  have hx : (hS h x).1 = 10 + 11 := by rw [H.1.1.2.1]
  have hd := H.2.2.2
  refine wL_1037 (by omega) x (x + 101) (nI i) ⟨rfl, vps 1 (by decide) (by decide) hi hL, hx, c _ (fun h1 n1 u1 C1 => ?_)⟩
  have R1 := H.2.1.eqm C1.2.2.2.2.2.2.2.2
  have hm : (hS h1 (x + 101)).1 = 10 + 12 := by rw [R1.mod.1]
  exact ⟨rfl, vps 1 (by decide) (by decide) hi hL, hm, m h1 _ R1 (fun h2 f R2 => ⟨fun _ => next p' h2 W' (C1.ref f) R2 ok' (by rw [f.2.2.1, n1]; omega) (by rw [f.2.2.2.1, u1]; omega), fun z => absurd rfl z⟩)⟩
theorem ls_falls (H : AgP p d x h W) (hi : i + 6 ≤ L) (hL : L ≤ 384) (b1 : hN h + 200 ≤ E1) (b2 : hU h + 2000 ≤ E2) (next : Nxt d E1 E2 L x i xs h) : LR d E1 E2 L xs (1060, [.retAddr 19, .ref x, .ref (x + 101), .int (nI i)], []) h := by
  obtain ⟨⟨nr, nw, A, fo, y, M, ps, ns⟩, cls, tp, im⟩ := W
  obtain ⟨W', p', r, ok', c, m⟩ := ag_falls (a := xs (Int32.toNatClampNeg (nI i + 1))) (b := xs (Int32.toNatClampNeg (nI i + 2))) (c := xs (Int32.toNatClampNeg (nI i + 3))) (w := xs (Int32.toNatClampNeg (nI i + 4))) H
  have hx : (hS h x).1 = 10 + 11 := by rw [H.1.1.2.1]
  have hd := H.2.2.2
  refine wL_1060 (by omega) x (x + 101) (nI i) ⟨rfl, vps 1 (by decide) (by decide) hi hL, rfl, vps 2 (by decide) (by decide) hi hL, rfl, vps 3 (by decide) (by decide) hi hL, rfl, vps 4 (by decide) (by decide) hi hL, hx, c _ (fun h1 n1 u1 C1 => ?_)⟩
  have R1 := H.2.1.eqm C1.2.2.2.2.2.2.2.2
  have hm : (hS h1 (x + 101)).1 = 10 + 12 := by rw [R1.mod.1]
  exact ⟨rfl, vps 1 (by decide) (by decide) hi hL, rfl, vps 2 (by decide) (by decide) hi hL, rfl, vps 3 (by decide) (by decide) hi hL, rfl, vps 4 (by decide) (by decide) hi hL, hm, m h1 _ R1 (fun h2 f R2 => ⟨fun _ => next p' h2 W' (C1.ref f) R2 ok' (by rw [f.2.2.1, n1]; omega) (by rw [f.2.2.2.1, u1]; omega), fun z => absurd rfl z⟩)⟩
theorem ls_count (H : AgP p d x h W) (hi : i + 6 ≤ L) (hL : L ≤ 384) (b1 : hN h + 200 ≤ E1) (b2 : hU h + 2000 ≤ E2) (next : Nxt d E1 E2 L x i xs h) : LR d E1 E2 L xs (1113, [.retAddr 19, .ref x, .ref (x + 101), .int (nI i)], []) h := by
  obtain ⟨⟨nr, nw, A, fo, y, M, ps, ns⟩, cls, tp, im⟩ := W
  obtain ⟨W', p', r, ok', c, m⟩ := ag_count (w := xs (Int32.toNatClampNeg (nI i + 1))) H
  have hx : (hS h x).1 = 10 + 11 := by rw [H.1.1.2.1]
  have hd := H.2.2.2
  refine wL_1113 (by omega) x (x + 101) (nI i) ⟨rfl, vps 1 (by decide) (by decide) hi hL, hx, c _ (fun h1 n1 u1 C1 => ?_)⟩
  have R1 := H.2.1.eqm C1.2.2.2.2.2.2.2.2
  have hm : (hS h1 (x + 101)).1 = 10 + 12 := by rw [R1.mod.1]
  exact ⟨rfl, vps 1 (by decide) (by decide) hi hL, hm, m h1 _ R1 (fun h2 f R2 => ⟨fun _ => next p' h2 W' (C1.ref f) R2 ok' (by rw [f.2.2.1, n1]; omega) (by rw [f.2.2.2.1, u1]; omega), fun z => absurd rfl z⟩)⟩
theorem ls_image (H : AgP p d x h W) (hi : i + 6 ≤ L) (hL : L ≤ 384) (b1 : hN h + 200 ≤ E1) (b2 : hU h + 2000 ≤ E2) (next : Nxt d E1 E2 L x i xs h) : LR d E1 E2 L xs (1136, [.retAddr 19, .ref x, .ref (x + 101), .int (nI i)], []) h := by
  obtain ⟨⟨nr, nw, A, fo, y, M, ps, ns⟩, cls, tp, im⟩ := W
  obtain ⟨N, U, bN, bU, W', p', r, ok', c, m⟩ := ag_image (s := xs (Int32.toNatClampNeg (nI i + 1))) H
  have hx : (hS h x).1 = 10 + 11 := by rw [H.1.1.2.1]
  have hd := H.2.2.2
  refine wL_1136 (by omega) x (x + 101) (nI i) ⟨rfl, vps 1 (by decide) (by decide) hi hL, hx, N, U, by omega, by omega, c _ (fun h1 n1 u1 C1 => ?_)⟩
  have R1 := H.2.1.eqm C1.2.2.2.2.2.2.2.2
  have hm : (hS h1 (x + 101)).1 = 10 + 12 := by rw [R1.mod.1]
  exact ⟨rfl, vps 1 (by decide) (by decide) hi hL, hm, m h1 _ R1 (fun h2 f R2 => ⟨fun _ => next p' h2 W' (C1.ref f) R2 ok' (by rw [f.2.2.1, n1]; omega) (by rw [f.2.2.2.1, u1]; omega), fun z => absurd rfl z⟩)⟩
theorem ls_back (H : AgP p d x h W) (hi : i + 6 ≤ L) (hL : L ≤ 384) (b1 : hN h + 200 ≤ E1) (b2 : hU h + 2000 ≤ E2) (next : Nxt d E1 E2 L x i xs h) : LR d E1 E2 L xs (1159, [.retAddr 19, .ref x, .ref (x + 101), .int (nI i)], []) h := by
  obtain ⟨⟨nr, nw, A, fo, y, M, ps, ns⟩, cls, tp, im⟩ := W
  obtain ⟨N, U, bN, bU, W', p', r, ok', c, m⟩ := ag_back (s := xs (Int32.toNatClampNeg (nI i + 1))) H
  have hx : (hS h x).1 = 10 + 11 := by rw [H.1.1.2.1]
  have hd := H.2.2.2
  refine wL_1159 (by omega) x (x + 101) (nI i) ⟨rfl, vps 1 (by decide) (by decide) hi hL, hx, N, U, by omega, by omega, c _ (fun h1 n1 u1 C1 => ?_)⟩
  have R1 := H.2.1.eqm C1.2.2.2.2.2.2.2.2
  have hm : (hS h1 (x + 101)).1 = 10 + 12 := by rw [R1.mod.1]
  exact ⟨rfl, vps 1 (by decide) (by decide) hi hL, hm, m h1 _ R1 (fun h2 f R2 => ⟨fun _ => next p' h2 W' (C1.ref f) R2 ok' (by rw [f.2.2.1, n1]; omega) (by rw [f.2.2.2.1, u1]; omega), fun z => absurd rfl z⟩)⟩
end LS
