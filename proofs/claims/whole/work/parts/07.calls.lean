/-! natives and the like -/
theorem cat_len (B : Nat) (adK : Nat → Nat) : ∀ (st : List Value) {n : Nat}, st.length ≤ n → ((st.map (cv B adK)).map fun v => v.category).sum ≤ 2 * n
  | [], _, _ => by simp
  | v :: st, n, h => by
    cases n with
    | zero => simp at h
    | succ n =>
      have h1 := cat_len B adK st (n := n) (by simpa using h)
      simp only [List.map_cons, List.sum_cons]
      rcases lv_cat (cv B adK v) with e | e <;> omega
theorem st_objInit {X : CX} {M : MX} (C : Ctx X M) {pc : Nat} {L st : List Value} {h : AH} {i a : Nat} (hd : decode M.2.1 pc = .ok (.invokespecial i, 3)) (hw : Cond.methodLink M.1 i objectInit ∈ lw_g) (ha : 1 ≤ a) (hl : st.length ≤ 4) (hdep : 1 ≤ M.2.2.2.1) (kk : Wst X (pc + 3, L, st) h) : Wst X (pc, L, .ref a :: st) h := by
  obtain ⟨⟨p, l, e, R, s, m, args, below, meth, c, Qm⟩, ⟨B, D, cid, adK, adV⟩, ⟨nL, n0, u0, E1, E2⟩⟩ := X
  obtain ⟨own, cc, mname, dep, scr⟩ := M
  obtain ⟨hx, hb, hml, hown, hts, hK, hstr, hsz, hnm, hroom, hscr⟩ := C
  intro H locs ls r1 r2 r3 r4
  simp only [List.map_cons, cv_pos ha]
  have hcl := cat_len B adK st hl
  have hdep : 1 ≤ dep := hdep
  exact W.objInit hx hb hown (hts _ hw) (hts (.instanceMethod objectInit) (by decide +kernel)) (hts (.code objectInit ⟨#[0xb1]⟩ 1 none) (by decide +kernel)) rfl (r3.1.trans hml.symm) rfl hd (by omega) (by show 2 * 0 + _ + 12 ≤ _; omega) (kk H locs ls r1 r2 r3 r4)
theorem hI_cpI_same {h : AH} {a f b t n : Nat} : hI (cpI h a f b t n) b = va_cpy (hI h a) (hI h b) f t n := by funext j; simp [hI, cpI, up1]; rfl
theorem hI_cpI_ne {h : AH} {a f b t n x : Nat} (e : x ≠ b) : hI (cpI h a f b t n) x = hI h x := by funext j; simp [hI, cpI, up1, e]
theorem st_copy {X : CX} {M : MX} (C : Ctx X M) {pc : Nat} {L st : List Value} {h : AH} {i a b : Nat} {sp dp n : Int32} (hd : decode M.2.1 pc = .ok (.invokestatic i, 3)) (hw : Cond.methodLink M.1 i arraycopyName ∈ lw_g) (hs : (hS h a).1 = 1) (ht : (hS h b).1 = 1) (h1 : ¬ sp < 0) (h2 : ¬ dp < 0) (h3 : ¬ n < 0) (h4 : sp.toNatClampNeg + n.toNatClampNeg ≤ (hS h a).2) (h5 : dp.toNatClampNeg + n.toNatClampNeg ≤ (hS h b).2) (hl : st.length ≤ 4) (hdep : 1 ≤ M.2.2.2.1) (kk : Wst X (pc + 3, L, st) (cpI h a sp.toNatClampNeg b dp.toNatClampNeg n.toNatClampNeg)) : Wst X (pc, L, .int n :: .int dp :: .ref b :: .int sp :: .ref a :: st) h := by
  obtain ⟨⟨p, l, e, R, s, m, args, below, meth, c, Qm⟩, ⟨B, D, cid, adK, adV⟩, ⟨nL, n0, u0, E1, E2⟩⟩ := X
  obtain ⟨own, cc, mname, dep, scr⟩ := M
  obtain ⟨hx, hb, hml, hown, hts, hK, hstr, hsz, hnm, hroom, hscr⟩ := C
  intro H locs ls r1 r2 r3 r4
  obtain ⟨ha, hat⟩ := rel_at r1 (by omega : (hS h a).1 ≠ 0)
  obtain ⟨hb0, hbt⟩ := rel_at r1 (by omega : (hS h b).1 ≠ 0)
  rw [cellE_1 hs] at hat
  rw [cellE_1 ht] at hbt
  simp only [List.map_cons, cv_pos ha.1, cv_pos hb0.1]
  have hcl := cat_len B adK st hl
  have hdep : 1 ≤ dep := hdep
  refine va_copyi (ty := .int) hx hb (hml.trans r3.1.symm) hown (hts _ hw) (hts (.native arraycopyName) (by decide +kernel)) (hts (.static arraycopyName) (by decide +kernel)) (hts (.initialized "java/lang/System") (by decide +kernel)) hK r1.1 (wsOf_D B cid h) r2 (a - 1) (b - 1) 0 0 hat hbt rfl rfl rfl h1 h2 h3 h4 h5 (fun _ _ => rfl) (by omega) (by show _ + (7 + 11) ≤ _; omega) hd (fun H1 locs1 g1 g2 g3 => kk H1 locs1 ls ⟨?_, r1.2⟩ g3 r3 r4)
  rw [wsOf_set (B := B) (cid := cid) (h := h) (h' := cpI h a sp.toNatClampNeg b dp.toNatClampNeg n.toNatClampNeg) hb0.1 rfl (fun x hx => cellE_congr rfl (hI_cpI_ne hx) rfl rfl) (by rw [cellE_1 (show (hS (cpI h a sp.toNatClampNeg b dp.toNatClampNeg n.toNatClampNeg) b).1 = 1 from ht), hI_cpI_same]; rfl)] at g1
  exact g1
theorem st_max {X : CX} {M : MX} (C : Ctx X M) {pc : Nat} {L st : List Value} {h : AH} {i : Nat} {x y : Int32} (hd : decode M.2.1 pc = .ok (.invokestatic i, 3)) (hw : Cond.methodLink M.1 i Lib.Math.max.name ∈ lw_g) (hl : st.length ≤ 4) (hdep : 1 ≤ M.2.2.2.1) (kk : Wst X (pc + 3, L, .int (if x < y then y else x) :: st) h) : Wst X (pc, L, .int y :: .int x :: st) h := by
  obtain ⟨⟨p, l, e, R, s, m, args, below, meth, c, Qm⟩, ⟨B, D, cid, adK, adV⟩, ⟨nL, n0, u0, E1, E2⟩⟩ := X
  obtain ⟨own, cc, mname, dep, scr⟩ := M
  obtain ⟨hx, hb, hml, hown, hts, hK, hstr, hsz, hnm, hroom, hscr⟩ := C
  intro H locs ls r1 r2 r3 r4
  have hcl := cat_len B adK st hl
  have hdep : 1 ≤ dep := hdep
  exact va_mmax hx hb (hml.trans r3.1.symm) hown (hts _ hw) (hts (.static Lib.Math.max.name) (by decide +kernel)) (hts (.initialized "java/lang/Math") (by decide +kernel)) (hts (.code Lib.Math.max.name Lib.Math.max.code 2 (some .int)) (by decide +kernel)) (by omega) (by omega) (by omega) (by omega) hd (kk H locs ls r1 r2 r3 r4)
theorem st_min {X : CX} {M : MX} (C : Ctx X M) {pc : Nat} {L st : List Value} {h : AH} {i : Nat} {x y : Int32} (hd : decode M.2.1 pc = .ok (.invokestatic i, 3)) (hw : Cond.methodLink M.1 i Lib.Math.min.name ∈ lw_g) (hl : st.length ≤ 4) (hdep : 1 ≤ M.2.2.2.1) (kk : Wst X (pc + 3, L, .int (if y < x then y else x) :: st) h) : Wst X (pc, L, .int y :: .int x :: st) h := by
  obtain ⟨⟨p, l, e, R, s, m, args, below, meth, c, Qm⟩, ⟨B, D, cid, adK, adV⟩, ⟨nL, n0, u0, E1, E2⟩⟩ := X
  obtain ⟨own, cc, mname, dep, scr⟩ := M
  obtain ⟨hx, hb, hml, hown, hts, hK, hstr, hsz, hnm, hroom, hscr⟩ := C
  intro H locs ls r1 r2 r3 r4
  have hcl := cat_len B adK st hl
  have hdep : 1 ≤ dep := hdep
  exact va_mmin hx hb (hml.trans r3.1.symm) hown (hts _ hw) (hts (.static Lib.Math.min.name) (by decide +kernel)) (hts (.initialized "java/lang/Math") (by decide +kernel)) (hts (.code Lib.Math.min.name Lib.Math.min.code 2 (some .int)) (by decide +kernel)) (by omega) (by omega) (by omega) (by omega) hd (kk H locs ls r1 r2 r3 r4)
/-! a copy of an array, by clone -/
def nD (h : AH) (a : Nat) : AH := (up1 h.1 (hN h) (1, (hS h a).2), up1 h.2.1 (hN h) (hI h a), up1 h.2.2.1 (hN h) (fun _ => 0), up1 h.2.2.2.1 (hN h) (fun _ => 0), hN h + 1, hU h + (hS h a).2)
theorem hS_nD_new (h : AH) (a : Nat) : hS (nD h a) (hN h) = (1, (hS h a).2) := by simp [hS, nD, up1]
theorem hS_nD_old (h : AH) (a : Nat) {b : Nat} (e : b ≠ hN h) : hS (nD h a) b = hS h b := by simp [hS, nD, up1, e]
theorem hI_nD_new (h : AH) (a : Nat) : hI (nD h a) (hN h) = hI h a := by funext j; simp [hI, nD, up1]
theorem hI_nD_old (h : AH) (a : Nat) {b : Nat} (e : b ≠ hN h) : hI (nD h a) b = hI h b := by funext j; simp [hI, nD, up1, e]
theorem hL_nD_old (h : AH) (a : Nat) {b : Nat} (e : b ≠ hN h) : hL (nD h a) b = hL h b := by funext j; simp [hL, nD, up1, e]
theorem hR_nD_old (h : AH) (a : Nat) {b : Nat} (e : b ≠ hN h) : hR (nD h a) b = hR h b := by funext j; simp [hR, nD, up1, e]
theorem wf_nD {h : AH} {a : Nat} (w : wfH h) : wfH (nD h a) := by
  refine ⟨by show 1 ≤ hN h + 1; omega, fun b hb => ?_⟩
  show 1 ≤ b ∧ b < hN h + 1
  have := w.1
  by_cases e : b = hN h
  · omega
  · rw [hS_nD_old h a e] at hb
    have := w.2 b hb
    omega
theorem st_clone {X : CX} {M : MX} (C : Ctx X M) {pc : Nat} {L st : List Value} {h : AH} {i a : Nat} (hd : decode M.2.1 pc = .ok (.invokevirtual i, 3)) (hw : Cond.methodLink M.1 i ⟨"[I", "clone", "()Ljava/lang/Object;"⟩ ∈ lw_g) (hs : (hS h a).1 = 1) (hl : st.length ≤ 4) (hdep : 1 ≤ M.2.2.2.1) (g1 : hN h + 1 ≤ X.2.2.2.2.2.1) (g2 : hU h + (hS h a).2 ≤ X.2.2.2.2.2.2) (kk : Wst X (pc + 3, L, .ref (hN h) :: st) (nD h a)) : Wst X (pc, L, .ref a :: st) h := by
  obtain ⟨⟨p, l, e, R, s, m, args, below, meth, c, Qm⟩, ⟨B, D, cid, adK, adV⟩, ⟨nL, n0, u0, E1, E2⟩⟩ := X
  obtain ⟨own, cc, mname, dep, scr⟩ := M
  obtain ⟨hx, hb, hml, hown, hts, hK, hstr, hsz, hnm, hroom, hscr⟩ := C
  intro H locs ls r1 r2 r3 r4
  simp only at g1 g2
  obtain ⟨ha, hat⟩ := rel_at r1 (by omega : (hS h a).1 ≠ 0)
  rw [cellE_1 hs] at hat
  simp only [List.map_cons, cv_pos ha.1]
  have hcl := cat_len B adK st hl
  have hdep : 1 ≤ dep := hdep
  have e1 : hN (nD h a) - n0 = hN h - n0 + 1 := by show hN h + 1 - n0 = _; omega
  have e2 : hU (nD h a) - u0 = hU h - u0 + (hS h a).2 := by show hU h + (hS h a).2 - u0 = _; omega
  refine va_clone (ad := "[I") hx hb (hml.trans r3.1.symm) hown (hts _ hw) (hts (.sameMethod "[I" "java/lang/Object" "clone" "()Ljava/lang/Object;") (by decide +kernel)) (hts (.native ⟨"java/lang/Object", "clone", "()Ljava/lang/Object;"⟩) (by decide +kernel)) (hts (.instanceMethod ⟨"java/lang/Object", "clone", "()Ljava/lang/Object;"⟩) (by decide +kernel)) (hts (.selects "[I" ⟨"[I", "clone", "()Ljava/lang/Object;"⟩ ⟨"java/lang/Object", "clone", "()Ljava/lang/Object;"⟩) (by decide +kernel)) hstr.2.2.2.2.2.2.2.2.2 hK r1.1 (wsOf_D B cid h) r2 (fun q hq => by simp only [AB]; omega) (a - 1) 0 hat rfl (hK.2 0 (cid 1, .int) rfl).2 (fun j v hv => ?_) (by omega) (by omega) (by omega) (by show _ + (hS h a).2 ≤ _; omega) hd (fun q H1 k1 k2 k3 k4 => W_sized (fun hz => ?_))
  · simp only [vp_cell, arrV] at hv
    obtain ⟨hj, he⟩ := Array.getElem?_eq_some_iff.mp hv
    simp only [Array.getElem_ofFn] at he
    rw [← he]; rfl
  · have hq : q = B + hN h := new_q r1.2.1 k2 k3 (by omega)
    have hrel : Rel B D cid (nD h a) H1 := by
      refine ⟨?_, wf_nD r1.2⟩
      rw [hq, wsOf_push (B := B) (cid := cid) (h := h) (h' := nD h a) r1.2.1 rfl (fun b hb => cellE_congr (hS_nD_old h a (by omega)) (hI_nD_old h a (by omega)) (hL_nD_old h a (by omega)) (hR_nD_old h a (by omega))) (by rw [cellE_1 (by rw [hS_nD_new]), hS_nD_new, hI_nD_new])] at k2
      exact k2
    have kk := kk H1 locs ls hrel k4 r3 (by show _ ≤ hN h + 1 ∧ _ ≤ hU h + _ ∧ hN h + 1 ≤ _ ∧ hU h + _ ≤ _; omega)
    rw [e1, e2] at kk
    simp only [List.map_cons, cv_pos r1.2.1] at kk
    rw [hq]
    exact kk
theorem st_castI {X : CX} {M : MX} (C : Ctx X M) {pc : Nat} {L st : List Value} {h : AH} {i a : Nat} (hd : decode M.2.1 pc = .ok (.checkcast i, 3)) (hw : Cond.classLink M.1 i "[I" ∈ lw_g) (hs : (hS h a).1 = 1) (kk : Wst X (pc + 3, L, .ref a :: st) h) : Wst X (pc, L, .ref a :: st) h := by
  obtain ⟨⟨p, l, e, R, s, m, args, below, meth, c, Qm⟩, ⟨B, D, cid, adK, adV⟩, ⟨nL, n0, u0, E1, E2⟩⟩ := X
  obtain ⟨own, cc, mname, dep, scr⟩ := M
  obtain ⟨hx, hb, hml, hown, hts, hK, hstr, hsz, hnm, hroom, hscr⟩ := C
  intro H locs ls r1 r2 r3 r4
  obtain ⟨ha, hat⟩ := rel_at r1 (by omega : (hS h a).1 ≠ 0)
  rw [cellE_1 hs] at hat
  have kk := kk H locs ls r1 r2 r3 r4
  simp only [List.map_cons, cv_pos ha.1] at kk ⊢
  exact va_castA hx hb hown (hts _ hw) r1.1 (a - 1) hat (hK.2 0 (cid 1, .int) rfl).2 hd kk
/-! switches -/
def swK (x : Int32) (K : Nat → Prop) (d : Nat) : List (Int32 × Nat) → Prop
  | [] => K d
  | q :: r => (x = q.1 → K q.2) ∧ (¬ x = q.1 → swK x K d r)
theorem swK_spec {x : Int32} {K : Nat → Prop} {d : Nat} : ∀ {l : List (Int32 × Nat)}, swK x K d l → (∃ (j : Nat) (q : Int32 × Nat), l[j]? = some q ∧ x = q.1 ∧ K q.2) ∨ ((∀ q ∈ l, x ≠ q.1) ∧ K d)
  | [], h => Or.inr ⟨fun q hq => absurd hq List.not_mem_nil, h⟩
  | q :: r, h => by
    by_cases e : x = q.1
    · exact Or.inl ⟨0, q, rfl, e, h.1 e⟩
    · rcases swK_spec (h.2 e) with ⟨j, q2, h1, h2, h3⟩ | ⟨h1, h2⟩
      · exact Or.inl ⟨j + 1, q2, h1, h2, h3⟩
      · refine Or.inr ⟨fun q2 hq => ?_, h2⟩
        rcases List.mem_cons.mp hq with rfl | hq
        · exact e
        · exact h1 q2 hq
theorem st_table {X : CX} {M : MX} (C : Ctx X M) {pc : Nat} {L st : List Value} {h : AH} {x : Int32} {dflt lo hi : Int} {offs : Array Int} {len dt : Nat} {sw : List (Int32 × Nat)} (hd : decode M.2.1 pc = .ok (.tableswitch dflt lo hi offs, len)) (ht : (pc : Int) + dflt = (dt : Int)) (hh : hi + 1 = lo + offs.size) (hw : sw.map (fun q => (q.1.toInt, (q.2 : Int))) = (List.range offs.size).map (fun (j : Nat) => (lo + (j : Int), (pc : Int) + offs.getD j 0))) (kk : swK x (fun t => Wst X (t, L, st) h) dt sw) : Wst X (pc, L, .int x :: st) h := by
  obtain ⟨⟨p, l, e, R, s, m, args, below, meth, c, Qm⟩, ⟨B, D, cid, adK, adV⟩, ⟨nL, n0, u0, E1, E2⟩⟩ := X
  obtain ⟨own, cc, mname, dep, scr⟩ := M
  obtain ⟨hx, hb, hml, hown, hts, hK, hstr, hsz, hnm, hroom, hscr⟩ := C
  have hlen : sw.length = offs.size := by
    have := congrArg List.length hw
    simpa using this
  have hat : ∀ (j : Nat) (q : Int32 × Nat), sw[j]? = some q → j < offs.size ∧ q.1.toInt = lo + (j : Int) ∧ (q.2 : Int) = (pc : Int) + offs.getD j 0 := fun j q hq => by
    have hj : j < sw.length := (List.getElem?_eq_some_iff.mp hq).1
    have h1 := congrArg (fun z => z[j]?) hw
    simp only [List.getElem?_map, hq, List.getElem?_range (show j < offs.size by omega), Option.map_some, Option.some.injEq, Prod.mk.injEq] at h1
    exact ⟨by omega, h1.1, h1.2⟩
  intro H locs ls r1 r2 r3 r4
  rcases swK_spec kk with ⟨j, q, h1, h2, h3⟩ | ⟨h1, h2⟩
  · obtain ⟨hj, e1, e2⟩ := hat j q h1
    rw [← h2] at e1
    exact lv_tableIn (off := offs.getD j 0) hx hb hd (by omega) (by omega) (by rw [show (x.toInt - lo).toNat = j by omega]; simp [Array.getD, hj]) e2.symm (h3 H locs ls r1 r2 r3 r4)
  · refine lv_tableOut hx hb hd ?_ ht (h2 H locs ls r1 r2 r3 r4)
    by_cases h4 : x.toInt < lo
    · exact Or.inl h4
    · refine Or.inr (Int.not_le.mp fun h5 => ?_)
      have hj : (x.toInt - lo).toNat < sw.length := by omega
      have hq := List.getElem?_eq_getElem hj
      have h6 := hat _ _ hq
      exact h1 _ (List.mem_of_getElem? hq) (Int32.toInt_inj.mp (by rw [h6.2.1]; omega))
theorem look_off {x : Int32} {K : Nat → Prop} {d pc : Nat} {dflt : Int} (ht : (pc : Int) + dflt = (d : Int)) : ∀ {l : List (Int32 × Nat)}, swK x K d l → ∃ t : Nat, K t ∧ (pc : Int) + Op.lookupswitch.offset (l.map (fun q => (q.1.toInt, (q.2 : Int) - pc))) dflt x.toInt = (t : Int)
  | [], h => ⟨d, h, ht⟩
  | q :: r, h => by
    by_cases e : x = q.1
    · refine ⟨q.2, h.1 e, ?_⟩
      subst e
      simp [Op.lookupswitch.offset]
      omega
    · obtain ⟨t, h1, h2⟩ := look_off ht (h.2 e)
      refine ⟨t, h1, ?_⟩
      rw [List.map_cons, lv_osw e rfl]
      exact h2
theorem st_look {X : CX} {M : MX} (C : Ctx X M) {pc : Nat} {L st : List Value} {h : AH} {x : Int32} {dflt : Int} {ps : Array (Int × Int)} {len dt : Nat} {sw : List (Int32 × Nat)} (hd : decode M.2.1 pc = .ok (.lookupswitch dflt ps, len)) (ht : (pc : Int) + dflt = (dt : Int)) (hp : (ps.toList.zip (ps.toList.drop 1)).all (fun (a, next) => a.1 < next.1) = true) (hw : sw.map (fun q => (q.1.toInt, (q.2 : Int) - pc)) = ps.toList) (kk : swK x (fun t => Wst X (t, L, st) h) dt sw) : Wst X (pc, L, .int x :: st) h := by
  obtain ⟨⟨p, l, e, R, s, m, args, below, meth, c, Qm⟩, ⟨B, D, cid, adK, adV⟩, ⟨nL, n0, u0, E1, E2⟩⟩ := X
  obtain ⟨own, cc, mname, dep, scr⟩ := M
  obtain ⟨hx, hb, hml, hown, hts, hK, hstr, hsz, hnm, hroom, hscr⟩ := C
  intro H locs ls r1 r2 r3 r4
  obtain ⟨t, h1, h2⟩ := look_off ht kk
  rw [hw] at h2
  exact lv_lookup hx hb hd hp rfl h2 (h1 H locs ls r1 r2 r3 r4)
/-! methods and contracts -/
abbrev MT : Type := MethodName × ByteArray × Nat × Option FieldType × Nat × Nat × Nat
/-- what the tables say of a method: name, code, locals, answer, its class's number, kind (0 static, 1 virtual, 2 constructor, 3 constructor of a nest mate), parameters -/
def mOk (q : MT) : Prop := plainName q.1.cls = true ∧ Cond.code q.1 q.2.1 q.2.2.1 q.2.2.2.1 ∈ lw_g ∧ Cond.initialized q.1.cls ∈ lw_g ∧ (q.1.cls ≠ "java/lang/invoke/MethodHandle" ∧ q.1.cls ≠ "java/lang/invoke/VarHandle" ∧ (parseMethodDescriptor q.1.desc).map (fun d => d.parameters.length) = some q.2.2.2.2.2.2) ∧ q.2.2.1 + 19 ≤ 64 ∧ (q.2.2.2.2.2.1 = 0 → Cond.static q.1 ∈ lw_g) ∧ (q.2.2.2.2.2.1 ≠ 0 → Cond.instanceMethod q.1 ∈ lw_g) ∧ (q.2.2.2.2.2.1 = 1 → Cond.selects q.1.cls q.1 q.1 ∈ lw_g) ∧ (2 ≤ q.2.2.2.2.2.1 → q.1.name = "<init>" ∧ q.2.2.2.1 = none)
def wsY (q : MT) : List Cond := Cond.code q.1 q.2.1 q.2.2.1 q.2.2.2.1 :: lw_g
theorem wsY_good {q : MT} (hq : mOk q) : GoodIn lw_g (wsY q) := fun w hw => by
  rcases List.mem_cons.mp hw with rfl | hw
  · exact ⟨hq.2.1, good_of_word (lw_g_ok hq.2.1)⟩
  · exact ⟨hw, good_of_word (lw_g_ok hw)⟩
def rmOf (d n u : Nat) : Room := { frames := d, cells := n, slots := u, locals := 64 * d }
def Pin (B : Nat) (D : va_G) (cid adK adV : Nat → Nat) (h : AH) (U : State) : Prop := U.heap.size = B + hN h ∧ Rel B D cid h U.heap ∧ va_K D cl13 (tysOf cid) U ∧ Str adK adV B U
def Qout (B : Nat) (D : va_G) (cid adK : Nat → Nat) (E1 E2 : Nat) (Q : Option Value → AH → Prop) : Array Value → State → Outcome → State → Prop := fun _ st oc t => (∃ (r : Option Value) (h' : AH), oc = .returned (r.map (cv B adK)) ∧ Q r h' ∧ Rel B D cid h' t.heap ∧ hN h' = E1 ∧ hU h' = E2) ∧ va_F (AB B) st t
/-- a method's contract over the abstract heap: from arguments as and heap h it returns, with Q of its answer and the heap then; the heap has then E1 cells and E2 slots -/
def CallsM (d : Nat) (q : MT) (as : List Value) (h : AH) (E1 E2 : Nat) (Q : Option Value → AH → Prop) : Prop := hN h ≤ E1 ∧ hU h ≤ E2 ∧ ∀ (l : Launch) (B : Nat) (D : va_G) (cid adK adV : Nat → Nat), Met l q.1 (wsY q) (rmOf d (E1 - hN h) (E2 - hU h)) (va_Pc (as.map (cv B adK)) (Pin B D cid adK adV h)) (Qout B D cid adK E1 E2 Q) (E1 - hN h) (E2 - hU h) (AB B)
theorem CallsM.mono {d : Nat} {q : MT} {as : List Value} {h : AH} {E1 E2 : Nat} {Q Q' : Option Value → AH → Prop} (k : CallsM d q as h E1 E2 Q) (hq : ∀ r h', Q r h' → Q' r h') : CallsM d q as h E1 E2 Q' := by
  refine ⟨k.1, k.2.1, fun l B D cid adK adV => ?_⟩
  have := k.2.2 l B D cid adK adV
  intro p e ha hc hk s m args below hf h1 h2 h3
  obtain ⟨t, o, a1, a2, a3, ⟨⟨⟨r, h', b1, b2, b3⟩, b4⟩, a5⟩⟩ := this p e ha hc hk s m args below hf h1 h2 h3
  exact ⟨t, o, a1, a2, a3, ⟨⟨r, h', b1, hq r h' b2, b3⟩, b4⟩, a5⟩
theorem Str.warm {adK adV : Nat → Nat} {B : Nat} {s U : State} (hW : s.WarmedH U.vm) (hk : ∀ a : Nat, a < s.heap.size → ¬ AB B a → U.heap[a]? = s.heap[a]?) (h : Str adK adV B s) : Str adK adV B U :=
  ⟨(vk_S.moved hW.alike h.1).kept hk, fun i q hq => (h.2.1 i q hq).warm hW, (va_Z.moved hW.alike h.2.2.1).kept hk, (va_Zq.moved hW.alike h.2.2.2.1).kept hk, Hard.warm hW h.2.2.2.2⟩
theorem Str.same {adK adV : Nat → Nat} {B : Nat} {s U : State} (hv : s.vm = U.vm) (hh : s.heap = U.heap) (h : Str adK adV B s) : Str adK adV B U :=
  ⟨hh ▸ vk_S.moved (by rw [hv]; exact Vm.Alike.refl _) h.1, fun i q hq => (h.2.1 i q hq).same hv.symm, hh ▸ va_Z.moved (by rw [hv]; exact Vm.Alike.refl _) h.2.2.1, hh ▸ va_Zq.moved (by rw [hv]; exact Vm.Alike.refl _) h.2.2.2.1, Hard.same hv h.2.2.2.2⟩
theorem Pin_blind (B : Nat) (D : va_G) (cid adK adV : Nat → Nat) (h : AH) (av : List Value) : FrameBlind (va_Pc av (Pin B D cid adK adV h)) := fun a U g mk q => by
  obtain ⟨q1, q2, q3, q4, q5⟩ := q
  exact ⟨q1, q2, q3, va_K.moved (u := U) (U := U.calling g mk a) (Vm.Alike.refl U.vm) q4, Str.same (s := U) (U := U.calling g mk a) rfl rfl q5⟩
/-- behind a call -/
theorem st_run {p : Program} {l : Launch} {e : Env} {R : Room} {s : State} {m : MethodId} {args : Array Value} {below : List Frame} {meth : Method} {c : Code} {H : Heap} {locs : List Loc} {cells slots mc ms : Nat} {Qm : State → Prop} {pc : Nat} {ls : Array Slot} {st0 rest : List Value} {a : Array Value} {B : Nat} {D : va_G} {cid adK : Nat → Nat} {E1 E2 : Nat} {Q : Option Value → AH → Prop}
    (hr : va_Run p l e R s m args below meth c H locs cells slots mc ms (F0 m pc ls st0) rest (Qout B D cid adK E1 E2 Q a) (AB B)) (hS : va_S (AB B) s.heap H locs)
    (kk : ∀ (r : Option Value) (h' : AH) (H1 : Heap) (locs1 : List Loc), Q r h' → Rel B D cid h' H1 → hN h' = E1 → hU h' = E2 → va_S (AB B) s.heap H1 locs1 → W p l e R s m args below meth c H1 locs1 (cells + mc) (slots + ms) Qm (F0 m (pc + 3) ls ((r.map (cv B adK)).toList ++ rest))) : W p l e R s m args below meth c H locs cells slots Qm (F0 m pc ls st0) := by
  intro T hT X
  obtain ⟨v, st₀, t, T', L, h0, X', hL, e1, e2, ⟨⟨r, h', hv, hq, hrel, g1, g2⟩, hz, hk⟩, st⟩ := hr T hT X
  cases hv
  rw [h0] at hz hk
  obtain ⟨t2, a1, b1⟩ := kk r h' T'.heap (locs ++ L) hq (by rw [e1]; exact hrel) g1 g2
    ⟨Nat.le_trans hS.1 (by rw [e1]; exact hz), fun q h1 h2 => by rw [e1, hk q (Nat.lt_of_lt_of_le h1 hS.1) h2]; exact hS.2.1 q h1 h2, fun q hq => by
      rcases List.mem_append.mp hq with h | h
      · exact hS.2.2 q h
      · exact hL q h⟩ T' rfl X'
  exact ⟨t2, st t2 a1, b1⟩
theorem st_callV {X : CX} {M : MX} (C : Ctx X M) {pc : Nat} {L st : List Value} {h : AH} {i d a F1 F2 : Nat} {q : MT} {qc : vw_C} {as : List Value} (hd : decode M.2.1 pc = .ok (.invokevirtual i, 3)) (hkd : q.2.2.2.2.2.1 = 1) (hw : Cond.methodLink M.1 i q.1 ∈ lw_g) (hcl : cl13[q.2.2.2.2.1]? = some qc) (hcn : qc.1 = q.1.cls) (hs : (hS h a).1 = 10 + q.2.2.2.2.1) (hn : as.length = q.2.2.2.2.2.2) (hok : mOk q) (hl : st.length ≤ 4) (hdep : M.2.2.2.1 = d + 1) (g1 : F1 ≤ X.2.2.2.2.2.1) (g2 : F2 ≤ X.2.2.2.2.2.2) (hc : CallsM d q (.ref a :: as) h F1 F2 (fun r h' => Wst X (pc + 3, L, r.toList ++ st) h')) : Wst X (pc, L, as.reverse ++ .ref a :: st) h := by
  obtain ⟨⟨p, l, e, R, s, m, args, below, meth, c, Qm⟩, ⟨B, D, cid, adK, adV⟩, ⟨nL, n0, u0, E1, E2⟩⟩ := X
  obtain ⟨own, cc, mname, dep, scr⟩ := M
  obtain ⟨hx, hb, hml, hown, hts, hK, hstr, hsz, hnm, hroom, hscr⟩ := C
  intro H locs ls r1 r2 r3 r4
  refine W_sized (fun hz => ?_)
  have hlo := rel_size r1 r2 hsz.1 hsz.2
  have hH : H.size = B + hN h := by omega
  obtain ⟨c1, c2, hM⟩ := hc
  have hcl0 := cat_len B adK st hl
  have hdep : dep = d + 1 := hdep
  have g1 : F1 ≤ E1 := g1
  have g2 : F2 ≤ E2 := g2
  have hpin : ∀ U : State, U.heap = H → s.WarmedH U.vm → Pin B D cid adK adV h U := fun U hU hW => ⟨by rw [hU]; exact hH, by rw [hU]; exact r1, va_K.moved hW.alike hK, Str.warm hW (fun a q1 q2 => by rw [hU]; exact r2.2.1 a q1 q2) hstr⟩
  obtain ⟨ha, hat⟩ := rel_at r1 (by omega : (hS h a).1 ≠ 0)
  rw [cellE_obj hs] at hat
  simp only [List.map_append, List.map_reverse, List.map_cons, cv_pos ha.1]
  have hM := hM l B D cid adK adV
  simp only [List.map_cons, cv_pos ha.1] at hM
  obtain ⟨o1, o2, o3, o4, o5, o6, o7, o8, o9⟩ := hok
  have hT : GoodIn lw_g (wsV own i q.1.cls q.1 (wsY q)) := fun w hw2 => by
    rcases List.mem_append.mp hw2 with h9 | h9
    · simp only [List.mem_cons, List.not_mem_nil, or_false] at h9
      rcases h9 with rfl | rfl | rfl | rfl
      · exact ⟨hw, good_of_word (lw_g_ok hw)⟩
      · exact ⟨o7 (by omega), good_of_word (lw_g_ok (o7 (by omega)))⟩
      · exact ⟨o8 hkd, good_of_word (lw_g_ok (o8 hkd))⟩
      · exact ⟨o3, good_of_word (lw_g_ok o3)⟩
    · exact wsY_good ⟨o1, o2, o3, o4, o5, o6, o7, o8, o9⟩ w h9
  refine st_run (va_runV (As := as.map (cv B adK)) (rest := st.map (cv B adK)) ⟨hx, hb, hml, hown, hts⟩ hM (cwV q.2.2.2.2.2.2 hts hT rfl rfl rfl ⟨rfl, o4⟩ ⟨by simp only [rmOf]; omega, by simp only [rmOf]; omega⟩) ⟨Pin_blind B D cid adK adV h _, by have h9 := va_recv hK r1.1 hcl hat; rw [hcn] at h9; exact h9, fun U hU hW => ⟨rfl, hpin U hU hW⟩⟩ rfl (by simpa using hn) r3.1 (by simp) (lv_room hcl0) hd ⟨by omega, by omega⟩) r2 (fun r h' H1 locs1 q1 q2 q3 q4 q5 => ?_)
  have k := q1 H1 locs1 ls q2 q5 r3 (by rw [q3, q4]; omega)
  rw [q3, q4] at k
  rw [show hN h - n0 + (F1 - hN h) = F1 - n0 by omega, show hU h - u0 + (F2 - hU h) = F2 - u0 by omega]
  simp only [List.map_append] at k
  cases r <;> exact k
theorem st_callS {X : CX} {M : MX} (C : Ctx X M) {pc : Nat} {L st : List Value} {h : AH} {i d F1 F2 : Nat} {q : MT} {as : List Value} (hd : decode M.2.1 pc = .ok (.invokestatic i, 3)) (hkd : q.2.2.2.2.2.1 = 0) (hw : Cond.methodLink M.1 i q.1 ∈ lw_g) (hn : as.length = q.2.2.2.2.2.2) (hok : mOk q) (hl : st.length ≤ 4) (hdep : M.2.2.2.1 = d + 1) (g1 : F1 ≤ X.2.2.2.2.2.1) (g2 : F2 ≤ X.2.2.2.2.2.2) (hc : CallsM d q as h F1 F2 (fun r h' => Wst X (pc + 3, L, r.toList ++ st) h')) : Wst X (pc, L, as.reverse ++ st) h := by
  obtain ⟨⟨p, l, e, R, s, m, args, below, meth, c, Qm⟩, ⟨B, D, cid, adK, adV⟩, ⟨nL, n0, u0, E1, E2⟩⟩ := X
  obtain ⟨own, cc, mname, dep, scr⟩ := M
  obtain ⟨hx, hb, hml, hown, hts, hK, hstr, hsz, hnm, hroom, hscr⟩ := C
  intro H locs ls r1 r2 r3 r4
  refine W_sized (fun hz => ?_)
  have hlo := rel_size r1 r2 hsz.1 hsz.2
  have hH : H.size = B + hN h := by omega
  obtain ⟨c1, c2, hM⟩ := hc
  have hcl := cat_len B adK st hl
  have hdep : dep = d + 1 := hdep
  have g1 : F1 ≤ E1 := g1
  have g2 : F2 ≤ E2 := g2
  have hpin : ∀ U : State, U.heap = H → s.WarmedH U.vm → Pin B D cid adK adV h U := fun U hU hW => ⟨by rw [hU]; exact hH, by rw [hU]; exact r1, va_K.moved hW.alike hK, Str.warm hW (fun a q1 q2 => by rw [hU]; exact r2.2.1 a q1 q2) hstr⟩
  simp only [List.map_append, List.map_reverse]
  have hM := hM l B D cid adK adV
  obtain ⟨o1, o2, o3, o4, o5, o6, o7, o8, o9⟩ := hok
  have hT : GoodIn lw_g (va_wsS own i q.1 (wsY q)) := fun w hw2 => by
    rcases List.mem_append.mp hw2 with h9 | h9
    · simp only [List.mem_cons, List.not_mem_nil, or_false] at h9
      rcases h9 with rfl | rfl | rfl
      · exact ⟨hw, good_of_word (lw_g_ok hw)⟩
      · exact ⟨o6 hkd, good_of_word (lw_g_ok (o6 hkd))⟩
      · exact ⟨o3, good_of_word (lw_g_ok o3)⟩
    · exact wsY_good ⟨o1, o2, o3, o4, o5, o6, o7, o8, o9⟩ w h9
  refine st_run (va_runS (As := as.map (cv B adK)) (rest := st.map (cv B adK)) ⟨hx, hb, hml, hown, hts⟩ hM (va_cwS q.2.2.2.2.2.2 hts hT rfl rfl rfl o4 ⟨by simp only [rmOf]; omega, by simp only [rmOf]; omega⟩) ⟨Pin_blind B D cid adK adV h _, fun U hU hW => ⟨rfl, hpin U hU hW⟩⟩ rfl (by simpa using hn) r3.1 rfl (lv_room hcl) hd ⟨by omega, by omega⟩) r2 (fun r h' H1 locs1 q1 q2 q3 q4 q5 => ?_)
  have k := q1 H1 locs1 ls q2 q5 r3 (by rw [q3, q4]; omega)
  rw [q3, q4] at k
  rw [show hN h - n0 + (F1 - hN h) = F1 - n0 by omega, show hU h - u0 + (F2 - hU h) = F2 - u0 by omega]
  simp only [List.map_append] at k
  cases r <;> exact k
theorem st_callI {X : CX} {M : MX} (C : Ctx X M) {pc : Nat} {L st : List Value} {h : AH} {i d a F1 F2 : Nat} {q : MT} {as : List Value} (hd : decode M.2.1 pc = .ok (.invokespecial i, 3)) (hkd : q.2.2.2.2.2.1 = 2) (hw : Cond.methodLink M.1 i q.1 ∈ lw_g) (ha : 1 ≤ a) (hn : as.length = q.2.2.2.2.2.2) (hok : mOk q) (hl : st.length ≤ 4) (hdep : M.2.2.2.1 = d + 1) (g1 : F1 ≤ X.2.2.2.2.2.1) (g2 : F2 ≤ X.2.2.2.2.2.2) (hc : CallsM d q (.ref a :: as) h F1 F2 (fun r h' => Wst X (pc + 3, L, r.toList ++ st) h')) : Wst X (pc, L, as.reverse ++ .ref a :: st) h := by
  obtain ⟨⟨p, l, e, R, s, m, args, below, meth, c, Qm⟩, ⟨B, D, cid, adK, adV⟩, ⟨nL, n0, u0, E1, E2⟩⟩ := X
  obtain ⟨own, cc, mname, dep, scr⟩ := M
  obtain ⟨hx, hb, hml, hown, hts, hK, hstr, hsz, hnm, hroom, hscr⟩ := C
  intro H locs ls r1 r2 r3 r4
  refine W_sized (fun hz => ?_)
  have hlo := rel_size r1 r2 hsz.1 hsz.2
  have hH : H.size = B + hN h := by omega
  obtain ⟨c1, c2, hM⟩ := hc
  have hcl := cat_len B adK st hl
  have hdep : dep = d + 1 := hdep
  have g1 : F1 ≤ E1 := g1
  have g2 : F2 ≤ E2 := g2
  have hpin : ∀ U : State, U.heap = H → s.WarmedH U.vm → Pin B D cid adK adV h U := fun U hU hW => ⟨by rw [hU]; exact hH, by rw [hU]; exact r1, va_K.moved hW.alike hK, Str.warm hW (fun a q1 q2 => by rw [hU]; exact r2.2.1 a q1 q2) hstr⟩
  simp only [List.map_append, List.map_reverse, List.map_cons, cv_pos ha]
  have hM := hM l B D cid adK adV
  simp only [List.map_cons, cv_pos ha] at hM
  have hG := wsY_good hok
  obtain ⟨o1, o2, o3, o4, o5, o6, o7, o8, o9⟩ := hok
  have o9 := o9 (by omega)
  refine st_run (va_runI (As := as.map (cv B adK)) (rest := st.map (cv B adK)) ⟨hx, hb, hml, hown, hts⟩ hM (cwI q.2.2.2.2.2.2 hts hG (by unfold wsY; rw [o9.2]) rfl rfl (hts _ o3) (hts _ hw) (hts _ (o7 (by omega))) o9.1 o4 ⟨by simp only [rmOf]; omega, by simp only [rmOf]; omega⟩) ⟨Pin_blind B D cid adK adV h _, fun U hU hW => ⟨rfl, hpin U hU hW⟩⟩ rfl (by simpa using hn) r3.1 (by simp) (lv_room hcl) hd ⟨by omega, by omega⟩) r2 (fun r h' H1 locs1 q1 q2 q3 q4 q5 => ?_)
  have k := q1 H1 locs1 ls q2 q5 r3 (by rw [q3, q4]; omega)
  rw [q3, q4] at k
  rw [show hN h - n0 + (F1 - hN h) = F1 - n0 by omega, show hU h - u0 + (F2 - hU h) = F2 - u0 by omega]
  simp only [List.map_append] at k
  cases r <;> exact k
theorem st_callN {X : CX} {M : MX} (C : Ctx X M) {pc : Nat} {L st : List Value} {h : AH} {i d a F1 F2 : Nat} {q : MT} {as : List Value} (hd : decode M.2.1 pc = .ok (.invokespecial i, 3)) (hkd : q.2.2.2.2.2.1 = 3) (hw : (M.1, i, q.1) ∈ nestW) (ha : 1 ≤ a) (hn : as.length = q.2.2.2.2.2.2) (hok : mOk q) (hl : st.length ≤ 4) (hdep : M.2.2.2.1 = d + 1) (g1 : F1 ≤ X.2.2.2.2.2.1) (g2 : F2 ≤ X.2.2.2.2.2.2) (hc : CallsM d q (.ref a :: as) h F1 F2 (fun r h' => Wst X (pc + 3, L, r.toList ++ st) h')) : Wst X (pc, L, as.reverse ++ .ref a :: st) h := by
  obtain ⟨⟨p, l, e, R, s, m, args, below, meth, c, Qm⟩, ⟨B, D, cid, adK, adV⟩, ⟨nL, n0, u0, E1, E2⟩⟩ := X
  obtain ⟨own, cc, mname, dep, scr⟩ := M
  obtain ⟨hx, hb, hml, hown, hts, hK, hstr, hsz, hnm, hroom, hscr⟩ := C
  intro H locs ls r1 r2 r3 r4
  refine W_sized (fun hz => ?_)
  have hlo := rel_size r1 r2 hsz.1 hsz.2
  have hH : H.size = B + hN h := by omega
  obtain ⟨c1, c2, hM⟩ := hc
  have hcl := cat_len B adK st hl
  have hdep : dep = d + 1 := hdep
  have g1 : F1 ≤ E1 := g1
  have g2 : F2 ≤ E2 := g2
  have hpin : ∀ U : State, U.heap = H → s.WarmedH U.vm → Pin B D cid adK adV h U := fun U hU hW => ⟨by rw [hU]; exact hH, by rw [hU]; exact r1, va_K.moved hW.alike hK, Str.warm hW (fun a q1 q2 => by rw [hU]; exact r2.2.1 a q1 q2) hstr⟩
  simp only [List.map_append, List.map_reverse, List.map_cons, cv_pos ha]
  have hM := hM l B D cid adK adV
  simp only [List.map_cons, cv_pos ha] at hM
  have hG := wsY_good hok
  obtain ⟨o1, o2, o3, o4, o5, o6, o7, o8, o9⟩ := hok
  have o9 := o9 (by omega)
  refine st_run (va_runIN (As := as.map (cv B adK)) (rest := st.map (cv B adK)) ⟨hx, hb, hml, hown, hts⟩ hM ⟨va_cnB q.2.2.2.2.2.2 hts hG (by unfold wsY; rw [o9.2]) rfl rfl (hstr.2.2.2.2.1 _ hw) (hts _ o3) o4 ⟨by simp only [rmOf]; omega, by simp only [rmOf]; omega⟩, o9.1, hts _ (o7 (by omega))⟩ ⟨Pin_blind B D cid adK adV h _, fun U hU hW => ⟨rfl, hpin U hU hW⟩⟩ rfl (by simpa using hn) r3.1 (by simp) (lv_room hcl) hd ⟨by omega, by omega⟩) r2 (fun r h' H1 locs1 q1 q2 q3 q4 q5 => ?_)
  have k := q1 H1 locs1 ls q2 q5 r3 (by rw [q3, q4]; omega)
  rw [q3, q4] at k
  rw [show hN h - n0 + (F1 - hN h) = F1 - n0 by omega, show hU h - u0 + (F2 - hU h) = F2 - u0 by omega]
  simp only [List.map_append] at k
  cases r <;> exact k
