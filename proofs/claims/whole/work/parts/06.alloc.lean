/-! new cells -/
theorem W_sized {p : Program} {l : Launch} {e : Env} {R : Room} {s : State} {m : MethodId} {args : Array Value} {below : List Frame} {meth : Method} {c : Code} {H : Heap} {locs : List Loc} {cells slots : Nat} {Q : State → Prop} {g : JFrame} (k : H.size ≤ s.heap.size + cells → W p l e R s m args below meth c H locs cells slots Q g) : W p l e R s m args below meth c H locs cells slots Q g := fun T hT X => k (by rw [← hT]; exact X.heapSize) T hT X
theorem rel_size {B : Nat} {D : va_G} {cid : Nat → ClassId} {h : AH} {H H0 : Heap} {locs : List Loc} {n0 : Nat} (r : Rel B D cid h H) (hS : va_S (AB B) H0 H locs) (h0 : H0.size = B + n0) (h1 : 1 ≤ n0) : B + hN h ≤ H.size := by
  have := r.2.1
  by_cases e : hN h = 1
  · have := hS.1
    omega
  · have := (r.1 (hN h - 1 - 1) _ (wsOf_at (by omega) (by omega))).lt
    simp only at this
    omega
theorem new_q {B : Nat} {D : va_G} {cid : Nat → ClassId} {h : AH} {H1 : Heap} {q : Nat} {e : va_E} (h1 : 1 ≤ hN h) (hP : va_P D cl13 (wsOf B cid h ++ [(q, e)]) H1) (hD : va_D (AB B) (wsOf B cid h ++ [(q, e)])) (hsz : H1.size ≤ B + hN h + 1) : q = B + hN h := by
  have hl := wsOf_len B cid h
  have hat : (wsOf B cid h ++ [(q, e)])[hN h - 1]? = some (q, e) := by
    rw [List.getElem?_append_right (by omega), hl, Nat.sub_self]; rfl
  have q1 : q < H1.size := (hP _ _ hat).lt
  have q2 : B < q := hD.2 _ _ hat
  by_cases hz : q - B < hN h
  · have h2 : (wsOf B cid h ++ [(q, e)])[q - B - 1]? = some (B + (q - B), cellE B cid h (q - B)) := by
      rw [List.getElem?_append_left (by omega)]
      exact wsOf_at (by omega) hz
    have := hD.1 _ _ _ _ hat h2 (by simp only; omega)
    omega
  · omega
theorem hN_nC (h : AH) (k n : Nat) : hN (nC h k n) = hN h + 1 := rfl
theorem hU_nC (h : AH) (k n : Nat) : hU (nC h k n) = hU h + n := rfl
theorem hS_nC_new (h : AH) (k n : Nat) : hS (nC h k n) (hN h) = (k, n) := by simp [hS, nC, up1]
theorem hS_nC_old (h : AH) (k n : Nat) {a : Nat} (e : a ≠ hN h) : hS (nC h k n) a = hS h a := by simp [hS, nC, up1, e]
theorem hI_nC_new (h : AH) (k n : Nat) : hI (nC h k n) (hN h) = fun _ => 0 := by funext j; simp [hI, nC, up1]
theorem hI_nC_old (h : AH) (k n : Nat) {a : Nat} (e : a ≠ hN h) : hI (nC h k n) a = hI h a := by funext j; simp [hI, nC, up1, e]
theorem hL_nC_new (h : AH) (k n : Nat) : hL (nC h k n) (hN h) = fun _ => 0 := by funext j; simp [hL, nC, up1]
theorem hL_nC_old (h : AH) (k n : Nat) {a : Nat} (e : a ≠ hN h) : hL (nC h k n) a = hL h a := by funext j; simp [hL, nC, up1, e]
theorem hR_nC_new (h : AH) (k n : Nat) : hR (nC h k n) (hN h) = fun _ => 0 := by funext j; simp [hR, nC, up1]
theorem hR_nC_old (h : AH) (k n : Nat) {a : Nat} (e : a ≠ hN h) : hR (nC h k n) a = hR h a := by funext j; simp [hR, nC, up1, e]
theorem wf_nC {h : AH} {k n : Nat} (w : wfH h) : wfH (nC h k n) := by
  refine ⟨by rw [hN_nC]; omega, fun a ha => ?_⟩
  rw [hN_nC]
  have := w.1
  by_cases e : a = hN h
  · omega
  · rw [hS_nC_old h k n e] at ha
    have := w.2 a ha
    omega
theorem cellE_nC_old {B : Nat} {cid : Nat → ClassId} {h : AH} {k n b : Nat} (e : b < hN h) : cellE B cid (nC h k n) b = cellE B cid h b := cellE_congr (hS_nC_old h k n (by omega)) (hI_nC_old h k n (by omega)) (hL_nC_old h k n (by omega)) (hR_nC_old h k n (by omega))
theorem rel_new {B : Nat} {D : va_G} {cid : Nat → ClassId} {h : AH} {H1 : Heap} {k n q : Nat} {e : va_E} (w : wfH h) (he : cellE B cid (nC h k n) (hN h) = e) (hq : q = B + hN h) (hP : va_P D cl13 (wsOf B cid h ++ [(q, e)]) H1) : Rel B D cid (nC h k n) H1 := by
  refine ⟨?_, wf_nC w⟩
  rw [hq, wsOf_push (B := B) (cid := cid) (h := h) (h' := nC h k n) w.1 rfl (fun b hb => cellE_nC_old hb) he] at hP
  exact hP
theorem cid_of {cid : Nat → ClassId} {D : va_G} {s : State} {cA : ClassId} {ty : FieldType} {t : Nat} (hK : va_K D cl13 (tysOf cid) s) (ht : (tysOf cid)[t]? = some (cid (t + 1), ty)) (hp : refTy ty = false) (h8 : va_K D cl13 (tysOf cid ++ [(cA, ty)]) s) : cA = cid (t + 1) := by
  have h1 := (hK.2 t _ ht).2
  have h2 := (h8.2 8 (cA, ty) rfl).2
  cases ty <;> simp [refTy] at hp <;> exact Option.some.inj (h2.symm.trans h1)
theorem cid_ofO {cid : Nat → ClassId} {D : va_G} {s : State} {cA : ClassId} {C : String} {t : Nat} (hK : va_K D cl13 (tysOf cid) s) (ht : (tysOf cid)[t]? = some (cid (t + 1), .object C)) (h8 : va_K D cl13 (tysOf cid ++ [(cA, .object C)]) s) : cA = cid (t + 1) := by
  obtain ⟨-, -, -, -, -, h1⟩ := (hK.2 t _ ht).2
  obtain ⟨-, -, -, -, -, h2⟩ := (h8.2 8 (cA, .object C) rfl).2
  exact Option.some.inj (h2.symm.trans h1)
theorem st_new_int {X : CX} {M : MX} (C : Ctx X M) {pc : Nat} {L st : List Value} {h : AH} {n : Int32} (hd : decode M.2.1 pc = .ok (.newarray .int, 2)) (hn : ¬ n < 0) (hb1 : n.toNatClampNeg ≤ 65536) (g1 : hN h + 1 ≤ X.2.2.2.2.2.1) (g2 : hU h + n.toNatClampNeg ≤ X.2.2.2.2.2.2) (kk : Wst X (pc + 2, L, .ref (hN h) :: st) (nC h 1 n.toNatClampNeg)) : Wst X (pc, L, .int n :: st) h := by
  obtain ⟨⟨p, l, e, R, s, m, args, below, meth, c, Qm⟩, ⟨B, D, cid, adK, adV⟩, ⟨nL, n0, u0, E1, E2⟩⟩ := X
  obtain ⟨own, cc, mname, dep, scr⟩ := M
  obtain ⟨hx, hb, hml, hown, hts, hK, hstr, hsz, hnm, hroom, hscr⟩ := C
  intro H locs ls r1 r2 r3 r4
  simp only at g1 g2
  have e1 : hN (nC h 1 n.toNatClampNeg) - n0 = hN h - n0 + 1 := by rw [hN_nC]; omega
  have e2 : hU (nC h 1 n.toNatClampNeg) - u0 = hU h - u0 + n.toNatClampNeg := by rw [hU_nC]; omega
  refine va_newa (atype := .int) (ty := .int) (N' := n.toNatClampNeg) (a0 := (n.toNatClampNeg, .inl (fun _ => 0))) hx hb (show (Cond.arrayClass (newarray.typeOf .int)).before args s = true from hts (.arrayClass .int) (by decide +kernel)) rfl hK r1.1 (wsOf_D B cid h) r2 (fun q hq => by simp only [AB]; omega) (fun cA => vp_cell_i cA n.toNatClampNeg (fun _ => 0)) hn rfl (by simp only [componentBytes]; omega) (by omega) (by omega) hd (fun q cA H1 k1 k2 k3 k4 => W_sized (fun hz => ?_))
  have hq : q = B + hN h := new_q r1.2.1 k2 k3 (by omega)
  have hc : cA = cid 1 := cid_of (t := 0) hK rfl rfl k1
  subst hc
  have kk := kk H1 locs ls (rel_new r1.2 (by rw [cellE_1 (by rw [hS_nC_new]), hS_nC_new, hI_nC_new]) hq k2) k4 r3 (by rw [hN_nC, hU_nC]; omega)
  rw [e1, e2] at kk
  simp only [List.map_cons, cv_pos r1.2.1] at kk
  rw [hq]
  exact kk
theorem st_new_byte {X : CX} {M : MX} (C : Ctx X M) {pc : Nat} {L st : List Value} {h : AH} {n : Int32} (hd : decode M.2.1 pc = .ok (.newarray .byte, 2)) (hn : ¬ n < 0) (hb1 : n.toNatClampNeg ≤ 65536) (g1 : hN h + 1 ≤ X.2.2.2.2.2.1) (g2 : hU h + n.toNatClampNeg ≤ X.2.2.2.2.2.2) (kk : Wst X (pc + 2, L, .ref (hN h) :: st) (nC h 2 n.toNatClampNeg)) : Wst X (pc, L, .int n :: st) h := by
  obtain ⟨⟨p, l, e, R, s, m, args, below, meth, c, Qm⟩, ⟨B, D, cid, adK, adV⟩, ⟨nL, n0, u0, E1, E2⟩⟩ := X
  obtain ⟨own, cc, mname, dep, scr⟩ := M
  obtain ⟨hx, hb, hml, hown, hts, hK, hstr, hsz, hnm, hroom, hscr⟩ := C
  intro H locs ls r1 r2 r3 r4
  simp only at g1 g2
  have e1 : hN (nC h 2 n.toNatClampNeg) - n0 = hN h - n0 + 1 := by rw [hN_nC]; omega
  have e2 : hU (nC h 2 n.toNatClampNeg) - u0 = hU h - u0 + n.toNatClampNeg := by rw [hU_nC]; omega
  refine va_newa (atype := .byte) (ty := .byte) (N' := n.toNatClampNeg) (a0 := (n.toNatClampNeg, .inl (fun _ => 0))) hx hb (show (Cond.arrayClass (newarray.typeOf .byte)).before args s = true from hts (.arrayClass .byte) (by decide +kernel)) rfl hK r1.1 (wsOf_D B cid h) r2 (fun q hq => by simp only [AB]; omega) (fun cA => vp_cell_i cA n.toNatClampNeg (fun _ => 0)) hn rfl (by simp only [componentBytes]; omega) (by omega) (by omega) hd (fun q cA H1 k1 k2 k3 k4 => W_sized (fun hz => ?_))
  have hq : q = B + hN h := new_q r1.2.1 k2 k3 (by omega)
  have hc : cA = cid 2 := cid_of (t := 1) hK rfl rfl k1
  subst hc
  have kk := kk H1 locs ls (rel_new r1.2 (by rw [cellE_2 (by rw [hS_nC_new]), hS_nC_new, hI_nC_new]) hq k2) k4 r3 (by rw [hN_nC, hU_nC]; omega)
  rw [e1, e2] at kk
  simp only [List.map_cons, cv_pos r1.2.1] at kk
  rw [hq]
  exact kk
theorem st_new_bool {X : CX} {M : MX} (C : Ctx X M) {pc : Nat} {L st : List Value} {h : AH} {n : Int32} (hd : decode M.2.1 pc = .ok (.newarray .boolean, 2)) (hn : ¬ n < 0) (hb1 : n.toNatClampNeg ≤ 65536) (g1 : hN h + 1 ≤ X.2.2.2.2.2.1) (g2 : hU h + n.toNatClampNeg ≤ X.2.2.2.2.2.2) (kk : Wst X (pc + 2, L, .ref (hN h) :: st) (nC h 3 n.toNatClampNeg)) : Wst X (pc, L, .int n :: st) h := by
  obtain ⟨⟨p, l, e, R, s, m, args, below, meth, c, Qm⟩, ⟨B, D, cid, adK, adV⟩, ⟨nL, n0, u0, E1, E2⟩⟩ := X
  obtain ⟨own, cc, mname, dep, scr⟩ := M
  obtain ⟨hx, hb, hml, hown, hts, hK, hstr, hsz, hnm, hroom, hscr⟩ := C
  intro H locs ls r1 r2 r3 r4
  simp only at g1 g2
  have e1 : hN (nC h 3 n.toNatClampNeg) - n0 = hN h - n0 + 1 := by rw [hN_nC]; omega
  have e2 : hU (nC h 3 n.toNatClampNeg) - u0 = hU h - u0 + n.toNatClampNeg := by rw [hU_nC]; omega
  refine va_newa (atype := .boolean) (ty := .boolean) (N' := n.toNatClampNeg) (a0 := (n.toNatClampNeg, .inl (fun _ => 0))) hx hb (show (Cond.arrayClass (newarray.typeOf .boolean)).before args s = true from hts (.arrayClass .boolean) (by decide +kernel)) rfl hK r1.1 (wsOf_D B cid h) r2 (fun q hq => by simp only [AB]; omega) (fun cA => vp_cell_i cA n.toNatClampNeg (fun _ => 0)) hn rfl (by simp only [componentBytes]; omega) (by omega) (by omega) hd (fun q cA H1 k1 k2 k3 k4 => W_sized (fun hz => ?_))
  have hq : q = B + hN h := new_q r1.2.1 k2 k3 (by omega)
  have hc : cA = cid 3 := cid_of (t := 2) hK rfl rfl k1
  subst hc
  have kk := kk H1 locs ls (rel_new r1.2 (by rw [cellE_3 (by rw [hS_nC_new]), hS_nC_new, hI_nC_new]) hq k2) k4 r3 (by rw [hN_nC, hU_nC]; omega)
  rw [e1, e2] at kk
  simp only [List.map_cons, cv_pos r1.2.1] at kk
  rw [hq]
  exact kk
theorem st_new_long {X : CX} {M : MX} (C : Ctx X M) {pc : Nat} {L st : List Value} {h : AH} {n : Int32} (hd : decode M.2.1 pc = .ok (.newarray .long, 2)) (hn : ¬ n < 0) (hb1 : n.toNatClampNeg ≤ 65536) (g1 : hN h + 1 ≤ X.2.2.2.2.2.1) (g2 : hU h + n.toNatClampNeg ≤ X.2.2.2.2.2.2) (kk : Wst X (pc + 2, L, .ref (hN h) :: st) (nC h 4 n.toNatClampNeg)) : Wst X (pc, L, .int n :: st) h := by
  obtain ⟨⟨p, l, e, R, s, m, args, below, meth, c, Qm⟩, ⟨B, D, cid, adK, adV⟩, ⟨nL, n0, u0, E1, E2⟩⟩ := X
  obtain ⟨own, cc, mname, dep, scr⟩ := M
  obtain ⟨hx, hb, hml, hown, hts, hK, hstr, hsz, hnm, hroom, hscr⟩ := C
  intro H locs ls r1 r2 r3 r4
  simp only at g1 g2
  have e1 : hN (nC h 4 n.toNatClampNeg) - n0 = hN h - n0 + 1 := by rw [hN_nC]; omega
  have e2 : hU (nC h 4 n.toNatClampNeg) - u0 = hU h - u0 + n.toNatClampNeg := by rw [hU_nC]; omega
  refine va_newa (atype := .long) (ty := .long) (N' := n.toNatClampNeg) (a0 := (n.toNatClampNeg, .inr (.inl (fun _ => 0)))) hx hb (show (Cond.arrayClass (newarray.typeOf .long)).before args s = true from hts (.arrayClass .long) (by decide +kernel)) rfl hK r1.1 (wsOf_D B cid h) r2 (fun q hq => by simp only [AB]; omega) (fun cA => vp_cell_l cA n.toNatClampNeg (fun _ => 0)) hn rfl (by simp only [componentBytes]; omega) (by omega) (by omega) hd (fun q cA H1 k1 k2 k3 k4 => W_sized (fun hz => ?_))
  have hq : q = B + hN h := new_q r1.2.1 k2 k3 (by omega)
  have hc : cA = cid 4 := cid_of (t := 3) hK rfl rfl k1
  subst hc
  have kk := kk H1 locs ls (rel_new r1.2 (by rw [cellE_4 (by rw [hS_nC_new]), hS_nC_new, hL_nC_new]) hq k2) k4 r3 (by rw [hN_nC, hU_nC]; omega)
  rw [e1, e2] at kk
  simp only [List.map_cons, cv_pos r1.2.1] at kk
  rw [hq]
  exact kk
theorem st_newq_Rule {X : CX} {M : MX} (C : Ctx X M) {pc : Nat} {L st : List Value} {h : AH} {n : Int32} {i : Nat} (hd : decode M.2.1 pc = .ok (.anewarray i, 3)) (hw : Cond.classLink M.1 i RX6 ∈ lw_g) (hn : ¬ n < 0) (hb1 : n.toNatClampNeg ≤ 65536) (g1 : hN h + 1 ≤ X.2.2.2.2.2.1) (g2 : hU h + n.toNatClampNeg ≤ X.2.2.2.2.2.2) (kk : Wst X (pc + 3, L, .ref (hN h) :: st) (nC h 5 n.toNatClampNeg)) : Wst X (pc, L, .int n :: st) h := by
  obtain ⟨⟨p, l, e, R, s, m, args, below, meth, c, Qm⟩, ⟨B, D, cid, adK, adV⟩, ⟨nL, n0, u0, E1, E2⟩⟩ := X
  obtain ⟨own, cc, mname, dep, scr⟩ := M
  obtain ⟨hx, hb, hml, hown, hts, hK, hstr, hsz, hnm, hroom, hscr⟩ := C
  intro H locs ls r1 r2 r3 r4
  simp only at g1 g2
  have e1 : hN (nC h 5 n.toNatClampNeg) - n0 = hN h - n0 + 1 := by rw [hN_nC]; omega
  have e2 : hU (nC h 5 n.toNatClampNeg) - u0 = hU h - u0 + n.toNatClampNeg := by rw [hU_nC]; omega
  refine va_newq (C := RX6) hx hb hown (hts _ hw) hstr.2.2.2.2.2.1 hK r1.1 (wsOf_D B cid h) r2 (fun q hq => by simp only [AB]; omega) hn rfl (by omega) (by omega) (by omega) hd (fun q cA H1 k1 k2 k3 k4 => W_sized (fun hz => ?_))
  have hq : q = B + hN h := new_q r1.2.1 k2 k3 (by omega)
  have hc : cA = cid 5 := cid_ofO (t := 4) hK rfl k1
  subst hc
  have kk := kk H1 locs ls (rel_new r1.2 (by rw [cellE_q (k := 5) (by rw [hS_nC_new]) (by omega) (by omega), hS_nC_new, hR_nC_new]; rfl) hq k2) k4 r3 (by rw [hN_nC, hU_nC]; omega)
  rw [e1, e2] at kk
  simp only [List.map_cons, cv_pos r1.2.1] at kk
  rw [hq]
  exact kk
theorem st_newq_Town {X : CX} {M : MX} (C : Ctx X M) {pc : Nat} {L st : List Value} {h : AH} {n : Int32} {i : Nat} (hd : decode M.2.1 pc = .ok (.anewarray i, 3)) (hw : Cond.classLink M.1 i RX9 ∈ lw_g) (hn : ¬ n < 0) (hb1 : n.toNatClampNeg ≤ 65536) (g1 : hN h + 1 ≤ X.2.2.2.2.2.1) (g2 : hU h + n.toNatClampNeg ≤ X.2.2.2.2.2.2) (kk : Wst X (pc + 3, L, .ref (hN h) :: st) (nC h 6 n.toNatClampNeg)) : Wst X (pc, L, .int n :: st) h := by
  obtain ⟨⟨p, l, e, R, s, m, args, below, meth, c, Qm⟩, ⟨B, D, cid, adK, adV⟩, ⟨nL, n0, u0, E1, E2⟩⟩ := X
  obtain ⟨own, cc, mname, dep, scr⟩ := M
  obtain ⟨hx, hb, hml, hown, hts, hK, hstr, hsz, hnm, hroom, hscr⟩ := C
  intro H locs ls r1 r2 r3 r4
  simp only at g1 g2
  have e1 : hN (nC h 6 n.toNatClampNeg) - n0 = hN h - n0 + 1 := by rw [hN_nC]; omega
  have e2 : hU (nC h 6 n.toNatClampNeg) - u0 = hU h - u0 + n.toNatClampNeg := by rw [hU_nC]; omega
  refine va_newq (C := RX9) hx hb hown (hts _ hw) hstr.2.2.2.2.2.2.1 hK r1.1 (wsOf_D B cid h) r2 (fun q hq => by simp only [AB]; omega) hn rfl (by omega) (by omega) (by omega) hd (fun q cA H1 k1 k2 k3 k4 => W_sized (fun hz => ?_))
  have hq : q = B + hN h := new_q r1.2.1 k2 k3 (by omega)
  have hc : cA = cid 6 := cid_ofO (t := 5) hK rfl k1
  subst hc
  have kk := kk H1 locs ls (rel_new r1.2 (by rw [cellE_q (k := 6) (by rw [hS_nC_new]) (by omega) (by omega), hS_nC_new, hR_nC_new]; rfl) hq k2) k4 r3 (by rw [hN_nC, hU_nC]; omega)
  rw [e1, e2] at kk
  simp only [List.map_cons, cv_pos r1.2.1] at kk
  rw [hq]
  exact kk
theorem st_newq_Moment {X : CX} {M : MX} (C : Ctx X M) {pc : Nat} {L st : List Value} {h : AH} {n : Int32} {i : Nat} (hd : decode M.2.1 pc = .ok (.anewarray i, 3)) (hw : Cond.classLink M.1 i RX4 ∈ lw_g) (hn : ¬ n < 0) (hb1 : n.toNatClampNeg ≤ 65536) (g1 : hN h + 1 ≤ X.2.2.2.2.2.1) (g2 : hU h + n.toNatClampNeg ≤ X.2.2.2.2.2.2) (kk : Wst X (pc + 3, L, .ref (hN h) :: st) (nC h 7 n.toNatClampNeg)) : Wst X (pc, L, .int n :: st) h := by
  obtain ⟨⟨p, l, e, R, s, m, args, below, meth, c, Qm⟩, ⟨B, D, cid, adK, adV⟩, ⟨nL, n0, u0, E1, E2⟩⟩ := X
  obtain ⟨own, cc, mname, dep, scr⟩ := M
  obtain ⟨hx, hb, hml, hown, hts, hK, hstr, hsz, hnm, hroom, hscr⟩ := C
  intro H locs ls r1 r2 r3 r4
  simp only at g1 g2
  have e1 : hN (nC h 7 n.toNatClampNeg) - n0 = hN h - n0 + 1 := by rw [hN_nC]; omega
  have e2 : hU (nC h 7 n.toNatClampNeg) - u0 = hU h - u0 + n.toNatClampNeg := by rw [hU_nC]; omega
  refine va_newq (C := RX4) hx hb hown (hts _ hw) hstr.2.2.2.2.2.2.2.1 hK r1.1 (wsOf_D B cid h) r2 (fun q hq => by simp only [AB]; omega) hn rfl (by omega) (by omega) (by omega) hd (fun q cA H1 k1 k2 k3 k4 => W_sized (fun hz => ?_))
  have hq : q = B + hN h := new_q r1.2.1 k2 k3 (by omega)
  have hc : cA = cid 7 := cid_ofO (t := 6) hK rfl k1
  subst hc
  have kk := kk H1 locs ls (rel_new r1.2 (by rw [cellE_q (k := 7) (by rw [hS_nC_new]) (by omega) (by omega), hS_nC_new, hR_nC_new]; rfl) hq k2) k4 r3 (by rw [hN_nC, hU_nC]; omega)
  rw [e1, e2] at kk
  simp only [List.map_cons, cv_pos r1.2.1] at kk
  rw [hq]
  exact kk
theorem fV_new {B : Nat} {h : AH} {k n c j : Nat} (hp : fTy c j = .int ∨ fTy c j = .boolean ∨ refTy (fTy c j) = true) : defaultValue (fTy c j) = fV B (nC h k n) (hN h) c j := by
  rcases hp with hp | hp | hp
  · rw [fV_int (Or.inl hp), hp, hI_nC_new]; rfl
  · rw [fV_int (Or.inr hp), hp, hI_nC_new]; rfl
  · rw [fV_ref hp, hR_nC_new]
    cases hq : fTy c j <;> rw [hq] at hp <;> simp [refTy] at hp <;> rfl
theorem fTy_kind : ∀ c, c < 13 → ∀ k, k < fN c → fTy c k = .int ∨ fTy c k = .boolean ∨ refTy (fTy c k) = true := by decide +kernel
theorem st_new {X : CX} {M : MX} (C : Ctx X M) {pc : Nat} {L st : List Value} {h : AH} {i ci : Nat} {q : vw_C} (hd : decode M.2.1 pc = .ok (.new i, 3)) (hq : cl13[ci]? = some q) (hw : Cond.classLink M.1 i q.1 ∈ lw_g) (g1 : hN h + 1 ≤ X.2.2.2.2.2.1) (g2 : hU h + q.2.2 ≤ X.2.2.2.2.2.2) (kk : Wst X (pc + 3, L, .ref (hN h) :: st) (nC h (10 + ci) q.2.2)) : Wst X (pc, L, st) h := by
  obtain ⟨⟨p, l, e, R, s, m, args, below, meth, c, Qm⟩, ⟨B, D, cid, adK, adV⟩, ⟨nL, n0, u0, E1, E2⟩⟩ := X
  obtain ⟨own, cc, mname, dep, scr⟩ := M
  obtain ⟨hx, hb, hml, hown, hts, hK, hstr, hsz, hnm, hroom, hscr⟩ := C
  intro H locs ls r1 r2 r3 r4
  simp only at g1 g2
  obtain ⟨hin, hn1, hty, hfn, hinst, hini⟩ := cl_ok hq
  have hc13 : ci < 13 := (List.getElem?_eq_some_iff.mp hq).1
  have e1 : hN (nC h (10 + ci) q.2.2) - n0 = hN h - n0 + 1 := by rw [hN_nC]; omega
  have e2 : hU (nC h (10 + ci) q.2.2) - u0 = hU h - u0 + q.2.2 := by rw [hU_nC]; omega
  refine va_new (c0 := c) (ci := ci) (fs := (List.range q.2.2).map (fV B (nC h (10 + ci) q.2.2) (hN h) ci)) hx hb hts hin (fTy ci) hty hown (hts _ hw) (hts _ hinst) (hts _ hini) hK r1.1 (wsOf_D B cid h) r2 (fun q hq => by simp only [AB]; omega) hq (fun j hj => ?_) (by omega) (by omega) hd (fun a H1 k2 k3 k4 => W_sized (fun hz => ?_))
  · simp only [vp_V, List.getD_eq_getElem?_getD]
    rw [fV_at hj]
    exact fV_new (fTy_kind ci hc13 j (by rw [hfn]; exact hj))
  · have ha : a = B + hN h := new_q r1.2.1 k2 k3 (by omega)
    have kk := kk H1 locs ls (rel_new r1.2 (by rw [cellE_obj (c := ci) (by rw [hS_nC_new]), hfn]) ha k2) k4 r3 (by rw [hN_nC, hU_nC]; omega)
    rw [e1, e2] at kk
    simp only [List.map_cons, cv_pos r1.2.1] at kk
    rw [ha]
    exact kk
theorem vr_outer (c : ClassId) (N h0 : Nat) : ∀ i : Nat, Jvm.Free.Multi.outerC c N h0 i = arrV c N (fun j => va_rf (if j < i then some (h0 + 1 + j) else none))
  | 0 => by
    show ({ cls := c, slots := Array.replicate N .null, vm := .none } : Cell) = _
    rw [arrV_new]
    refine congrArg (arrV c N) (funext fun j => ?_)
    simp [va_rf]
  | i + 1 => by
    show (Jvm.Free.Multi.outerC c N h0 i).setSlot i (.ref (h0 + 1 + i)) = _
    rw [vr_outer c N h0 i, arrV_store]
    refine congrArg (arrV c N) (funext fun j => ?_)
    by_cases e : j = i
    · subst e
      simp [updV, va_rf]
    · by_cases h : j < i
      · simp [updV, e, h, Nat.lt_succ_of_lt h]
      · simp [updV, e, h, show ¬ j < i + 1 by omega]
theorem hS_nM_old (h : AH) (n k : Nat) {a : Nat} (e : a < hN h) : hS (nM h n k) a = hS h a := by
  simp only [hS, nM]
  rw [if_neg (by omega), if_neg (by omega)]
theorem hI_nM_old (h : AH) (n k : Nat) {a : Nat} (e : a < hN h) : hI (nM h n k) a = hI h a := by
  funext j
  simp only [hI, nM]
  rw [if_neg (by omega)]
theorem hL_nM_old (h : AH) (n k : Nat) {a : Nat} (e : a < hN h) : hL (nM h n k) a = hL h a := by
  funext j
  simp only [hL, nM]
  rw [if_neg (by omega)]
theorem hR_nM_old (h : AH) (n k : Nat) {a : Nat} (e : a < hN h) : hR (nM h n k) a = hR h a := by
  funext j
  simp only [hR, nM]
  rw [if_neg (by omega), if_neg (by omega)]
theorem hS_nM_out (h : AH) (n k : Nat) : hS (nM h n k) (hN h) = (8, n) := by simp [hS, nM]
theorem hS_nM_in (h : AH) (n k : Nat) {i : Nat} (e : i < n) : hS (nM h n k) (hN h + 1 + i) = (1, k) := by
  simp only [hS, nM]
  rw [if_neg (by omega), if_pos (by omega)]
theorem hI_nM_in (h : AH) (n k : Nat) {i : Nat} (e : i < n) : hI (nM h n k) (hN h + 1 + i) = fun _ => 0 := by
  funext j
  simp only [hI, nM]
  rw [if_pos (by omega)]
theorem hR_nM_out (h : AH) (n k : Nat) (i : Nat) : hR (nM h n k) (hN h) i = if i < n then hN h + 1 + i else 0 := by simp [hR, nM]
theorem hN_nM (h : AH) (n k : Nat) : hN (nM h n k) = hN h + 1 + n := rfl
theorem hU_nM (h : AH) (n k : Nat) : hU (nM h n k) = hU h + n + n * k := rfl
theorem wf_nM {h : AH} {n k : Nat} (w : wfH h) : wfH (nM h n k) := by
  refine ⟨by rw [hN_nM]; omega, fun a ha => ?_⟩
  rw [hN_nM]
  have := w.1
  by_cases e : a < hN h
  · rw [hS_nM_old h n k e] at ha
    have := w.2 a ha
    omega
  · by_cases e2 : a ≤ hN h + n
    · omega
    · have : hS (nM h n k) a = hS h a := by
        simp only [hS, nM]
        rw [if_neg (by omega), if_neg (by omega)]
      rw [this] at ha
      have := w.2 a ha
      omega
theorem st_mna {X : CX} {M : MX} (C : Ctx X M) {pc : Nat} {L st : List Value} {h : AH} {n k : Int32} {i : Nat} (hd : decode M.2.1 pc = .ok (.multianewarray i 2, 4)) (hw : Cond.classLink M.1 i "[[I" ∈ lw_g) (hn : ¬ n < 0) (hk : ¬ k < 0) (hb1 : n.toNatClampNeg ≤ 65536) (hb2 : k.toNatClampNeg ≤ 65536) (g1 : hN h + 1 + n.toNatClampNeg ≤ X.2.2.2.2.2.1) (g2 : hU h + n.toNatClampNeg + n.toNatClampNeg * k.toNatClampNeg ≤ X.2.2.2.2.2.2) (kk : Wst X (pc + 4, L, .ref (hN h) :: st) (nM h n.toNatClampNeg k.toNatClampNeg)) : Wst X (pc, L, .int k :: .int n :: st) h := by
  obtain ⟨⟨p, l, e, R, s, m, args, below, meth, c, Qm⟩, ⟨B, D, cid, adK, adV⟩, ⟨nL, n0, u0, E1, E2⟩⟩ := X
  obtain ⟨own, cc, mname, dep, scr⟩ := M
  obtain ⟨hx, hb, hml, hown, hts, hK, hstr, hsz, hnm, hroom, hscr⟩ := C
  intro H locs ls r1 r2 r3 r4
  simp only at g1 g2
  refine W_sized (fun hz => ?_)
  have hlo := rel_size r1 r2 hsz.1 hsz.2
  have hH : H.size = B + hN h := by omega
  have e1 : hN (nM h n.toNatClampNeg k.toNatClampNeg) - n0 = hN h - n0 + 1 + n.toNatClampNeg := by rw [hN_nM]; omega
  have e2 : hU (nM h n.toNatClampNeg k.toNatClampNeg) - u0 = hU h - u0 + n.toNatClampNeg + n.toNatClampNeg * k.toNatClampNeg := by rw [hU_nM]; omega
  intro T hT Xs
  obtain ⟨vm₁, cA, comp, -, fA, fC, hO, -, X', step⟩ := Xs.multianewarray2F (ty := .int) hx hown (hts _ hw) hstr.2.2.2.2.2.2.2.2.1 (hts (.arrayClass .int) (by decide +kernel)) (g := F0 m pc ls (.int k :: .int n :: st.map (cv B adK))) rfl (by rw [hb]; exact hd) rfl hn hk (by omega) (by simp only [componentBytes]; omega) (by omega) rfl rfl (by omega) (by omega)
  have c8 : cA = cid 8 := Option.some.inj (fA.symm.trans (hK.2 7 (cid 8, .array .int) rfl).2)
  have c1 : comp = cid 1 := Option.some.inj (fC.symm.trans (hK.2 0 (cid 1, .int) rfl).2)
  subst c8; subst c1
  generalize hF : Jvm.Free.Multi.fill (T.setVm vm₁) (cid 8) (cid 1) n.toNatClampNeg k.toNatClampNeg (defaultValue .int) n.toNatClampNeg = F at X' step
  have hTh : (T.setVm vm₁).heap = H := hT
  obtain ⟨f1, f2, -, -⟩ := Jvm.Free.Multi.fill_facts (T.setVm vm₁) (cid 8) (cid 1) n.toNatClampNeg k.toNatClampNeg (defaultValue .int) n.toNatClampNeg
  rw [hF, hTh] at f1 f2
  have hold : ∀ x : Nat, x < H.size → F.heap[x]? = H[x]? := fun x hx => by
    have := Jvm.Free.Multi.fill_old (T.setVm vm₁) (cid 8) (cid 1) n.toNatClampNeg k.toNatClampNeg (defaultValue .int) (a := x) (by rw [hTh]; exact hx) n.toNatClampNeg
    rw [hF, hTh] at this
    exact this
  have hrow : ∀ j : Nat, j < n.toNatClampNeg → F.heap[H.size + 1 + j]? = some (vp_cell (cid 1) (k.toNatClampNeg, .inl (fun _ => 0))) := fun j hj => by
    have := Jvm.Free.Multi.fill_inner (T.setVm vm₁) (cid 8) (cid 1) n.toNatClampNeg k.toNatClampNeg (defaultValue .int) n.toNatClampNeg j hj
    rw [hF, hTh] at this
    rw [this]
    exact congrArg some (arrV_new (cid 1) k.toNatClampNeg (defaultValue .int))
  rw [vr_outer] at f2
  have hrel : Rel B D cid (nM h n.toNatClampNeg k.toNatClampNeg) F.heap := by
    refine ⟨fun j q hq => ?_, wf_nM r1.2⟩
    obtain ⟨h1, rfl⟩ := wsOf_of hq
    rw [hN_nM] at h1
    by_cases ho : j + 1 < hN h
    · rw [cellE_congr (hS_nM_old h _ _ ho) (hI_nM_old h _ _ ho) (hL_nM_old h _ _ ho) (hR_nM_old h _ _ ho)]
      have hat := wsOf_at (B := B) (cid := cid) (h := h) (a := j + 1) (by omega) ho
      have h9 := r1.1 _ _ hat
      exact h9.kept (hold _ h9.lt)
    · by_cases hi : j + 1 = hN h
      · rw [hi, cellE_q (k := 8) (by rw [hS_nM_out]) (by omega) (by omega), hS_nM_out]
        show F.heap[B + hN h]? = some (arrV (cid 8) n.toNatClampNeg (fun j => va_rf (rfo B (hR (nM h n.toNatClampNeg k.toNatClampNeg) (hN h) j))))
        rw [← hH, f2, hH]
        refine congrArg some (congrArg (arrV (cid 8) n.toNatClampNeg) (funext fun j => ?_))
        rw [hR_nM_out]
        by_cases hj : j < n.toNatClampNeg
        · rw [if_pos hj, if_pos hj]
          simp only [rfo]
          rw [if_neg (by omega), show B + hN h + 1 + j = B + (hN h + 1 + j) by omega]
        · rw [if_neg hj, if_neg hj]; rfl
      · obtain ⟨i2, hi2⟩ : ∃ i2, j + 1 = hN h + 1 + i2 := ⟨j - hN h, by omega⟩
        have hlt : i2 < n.toNatClampNeg := by omega
        rw [hi2, cellE_1 (by rw [hS_nM_in h _ _ hlt]), hS_nM_in h _ _ hlt, hI_nM_in h _ _ hlt]
        have := hrow i2 hlt
        rw [hH] at this
        show F.heap[B + (hN h + 1 + i2)]? = _
        rw [show B + (hN h + 1 + i2) = B + hN h + 1 + i2 by omega, this]
  have kk := kk F.heap locs ls hrel ⟨by rw [f1]; have := r2.1; omega, fun x h1 h2 => (hold x (by omega)).trans (r2.2.1 x h1 h2), r2.2.2⟩ r3 (by rw [hN_nM, hU_nM]; omega)
  rw [e1, e2] at kk
  simp only [List.map_cons, cv_pos r1.2.1] at kk
  obtain ⟨t, a1, b1⟩ := kk F rfl X'
  refine ⟨t, step t ?_, b1⟩
  rw [show T.heap.size = B + hN h by rw [hT]; exact hH]
  exact a1
