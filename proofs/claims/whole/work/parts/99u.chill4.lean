/-! the class's hill -/
theorem CW.txg {pz : PZT} {h h' : AH} {x : Nat} {T : TW} {cls : List (List (List (Nat × Nat) × List (Nat × Nat)))} {tp tp' : List Int32} {im : Nat → Option TW} {S : Nat → Prop} (H : CW pz h x (T, cls, tp, im)) (f : FrG h h' S) (hs : ∀ c, S c → c = x + 2 ∨ c = x + 3) (HT : cTx h' x tp') : CW pz h' x (T, cls, tp', im) := by
  obtain ⟨H1, ⟨H2, H3⟩, H4, H5, H6, H7, H8, H9, H10⟩ := H
  have w := H1.1.1
  have hx := H1.1.2.1
  have gd : ∀ c, x + 145 ≤ c → ¬ S c := fun c hc z => by have := hs c z; omega
  have gl : ∀ c, c ≠ x + 2 → c ≠ x + 3 → ¬ S c := fun c h1 h2 z => by have := hs c z; omega
  exact ⟨H1.frg f (gl x (by omega) (by omega)), H2.frd w H3 f (fun b h1 h2 => gl b (by omega) (by omega)) gd, H4.frg w hx f (gl x (by omega) (by omega)) (gl _ (by omega) (by omega)) (fun i c hc b h1 _ => gd b (by have := H4.2.2 i c hc; omega)), HT, H6.frg w hx f (gl _ (by omega) (by omega)) (gl _ (by omega) (by omega)) gd, H7.frg f hx (fun c h1 h2 => gl c (by omega) (by omega)), H8.frg hx f (gl _ (by omega) (by omega)) (gl _ (by omega) (by omega)), H9.frg H6 w hx f (gl _ (by omega) (by omega)) (gl _ (by omega) (by omega)) gd, H10.frg hx f (fun c h1 h2 => gl c (by omega) (by omega))⟩
theorem upN_id (p : Nat → Nat) (k : Nat) : upN p k (p k) = p := by
  funext i
  unfold upN
  split
  · rename_i e; rw [e]
  · rfl
theorem HRd.cg {h h' : AH} {a nr nw : Nat} {A : PC} {S : Nat → Prop} (H : HRd h a nr nw A) (f : Fr' h h' S) (hs : ∀ c, a ≤ c → c ≤ a + 5 → ¬ S c) : HRd h' a nr nw A := by
  have o : ∀ c, a ≤ c → c ≤ a + 5 → ∀ j, hI h' c j = hI h c j := fun c c1 c2 => f.2.2.2.2.1 c (hs c c1 c2)
  obtain ⟨x1, ⟨x2, x3, x4⟩, x5, x6, x7⟩ := H
  refine ⟨x1.fr f, ⟨?_, ?_, ?_⟩, x5, fun j hj => ?_, fun j hj => ?_⟩
  · rw [o a (by omega) (by omega)]; exact x2
  · rw [o a (by omega) (by omega)]; exact x3
  · rw [o a (by omega) (by omega)]; exact x4
  · rw [o (a + 1) (by omega) (by omega), o (a + 2) (by omega) (by omega)]; exact x6 j hj
  · rw [o (a + 3) (by omega) (by omega), o (a + 4) (by omega) (by omega), o (a + 5) (by omega) (by omega)]; exact x7 j hj
theorem c_hill {pz : PZT} {d : Nat} {h : AH} {Q : Option Value → AH → Prop} (hd : 12 ≤ d) (x nr nw : Nat) (A M : PC) (fo y : Int32) (ps : List PC) (ns : List (Nat × Nat × Int32)) (cls : List (List (List (Nat × Nat) × List (Nat × Nat)))) (tp : List Int32) (im : Nat → Option TW) (H : CW pz h x ((nr, nw, A, fo, y, M, ps, ns), cls, tp, im)) (k : ∀ h', hN h' = hN h + 6 → hU h' = hU h + 36 → CW pz h' x ((oHill (nr, nw, A, fo, y, M, ps, ns) tp).2, cls, [], im) → Q (some (.int (oHill (nr, nw, A, fo, y, M, ps, ns) tp).1)) h') : Calls d nX11_hill [.ref x] h (hN h + 6) (hU h + 36) Q := by
  obtain ⟨e, rfl⟩ : ∃ e, d = e + 1 := ⟨d - 1, by omega⟩
  have s0 : hS h x = (21, 11) := H.1.2.1
  have p1 : hR h x 1 = x + 2 := H.1.2.2.2.1
  have p4 : hR h x 4 = x + 8 := H.1.2.2.2.2.2.1
  have wf := H.1.1.1
  have hx := H.1.1.2.1
  have HTx := H.2.2.2.1
  have hf : fN 3 = 8 := rfl
  have hn4 : tp.length ≤ 400 := HTx.2.2.2.2.1
  refine wX11_hill (by omega) (by omega) (by omega) x ?_
  simp only [hf, lH_eq, hS_nC, if_true, true_and]
  have hu : hU (nC h 13 8) = hU h + 8 := rfl
  refine ⟨by omega, by omega, hN h + 6, hU (nC h 13 8) + 28, by omega, by omega, ?_⟩
  refine sp_Hinit (h := nC h 13 8) (by omega) (hN h) (by rw [hS_nC, if_pos rfl]) rfl (fun h2 f2 n2 u2 R2 => ?_)
  have f02 : FrG h h2 (fun _ => False) := (frg_nC (FrG.refl h _)).trans f2 (fun c hc z => by omega)
  have C2 : CW pz h2 x ((nr, nw, A, fo, y, M, ps, ns), cls, tp, im) := H.txg (f02.mono (fun _ _ z => z.elim)) (S := fun c => c = x + 2) (fun c z => Or.inl z) (HTx.frg hx f02 (fun z => z) (fun z => z))
  have s02 : hS h2 x = (21, 11) := C2.1.2.1
  have p12 : hR h2 x 1 = x + 2 := C2.1.2.2.2.1
  have Tx2 := C2.2.2.2.1.txs
  simp only [rV_none, s02, p12, R2.1.1, true_and]
  refine sp_hread (by omega) (hN h) (x + 2) tp.length (tpF tp) (Or.inl (by omega)) Tx2 R2 (fun h4 f4 g1 g2 A4 R4 => ?_)
  have s04 : hS h4 x = (21, 11) := by rw [f4.1]; exact s02
  have p14 : hR h4 x 1 = x + 2 := by rw [f4.2.1]; exact p12
  have p44 : hR h4 x 4 = x + 8 := by rw [f4.2.1]; exact C2.1.2.2.2.2.2.1
  have st4 : hS h4 (x + 2) = (18, 7) := by rw [f4.1]; exact Tx2.1
  have F7 : FrG h (sI h4 (x + 2) 1 0) (fun c => c = x + 2) := frg_sI ((f02.mono (fun _ _ z => z.elim)).trans (FrG.of f4) (fun c hc z => by omega)) (fun _ => rfl)
  have T7 : cTx (sI h4 (x + 2) 1 0) x [] := by
    obtain ⟨t1, t2, t3, t4, t5, t6⟩ := HTx
    refine ⟨?_, ?_, ?_, ?_, by simp, fun i b hb => by simp at hb⟩
    · show hR h4 (x + 2) 0 = x + 3
      rw [f4.2.1]; exact Tx2.2.1
    · exact st4
    · rw [hI_sI, if_pos rfl, if_pos rfl]; rfl
    · show hS h4 (x + 3) = (2, 400)
      rw [f4.1]; exact Tx2.2.2.1
  have C7 : CW pz (sI h4 (x + 2) 1 0) x ((nr, nw, A, fo, y, M, ps, ns), cls, [], im) := H.txg F7 (fun c z => Or.inl z) T7
  have n7 : hN (sI h4 (x + 2) 1 0) = hN h + 6 := f4.2.2.1.trans n2
  have u7 : hU (sI h4 (x + 2) 1 0) = hU h + 36 := by rw [hU_sI, f4.2.2.2.1, u2, hu]
  have fa7 : hI (sI h4 (x + 2) 1 0) (x + 2) 2 = (hlF (tpF tp) tp.length).1 := by rw [hI_sI, if_pos rfl, if_neg (by decide)]; exact g2
  simp only [rI_some, lH_eq, bI0, s04, p14, st4, true_and]
  have R7 : (hlF (tpF tp) tp.length).1 = 0 → HRd (sI h4 (x + 2) 1 0) (hN h) (hlF (tpF tp) tp.length).2.1 (hlF (tpF tp) tp.length).2.2.1 (hlF (tpF tp) tp.length).2.2.2 := fun z => (R4 z).cg (S := fun c => c = x + 2) (Fr'.sI rfl) (fun c c1 c2 z => by omega)
  generalize sI h4 (x + 2) 1 0 = h7 at *
  have s07 : hS h7 x = (21, 11) := C7.1.2.1
  have p17 : hR h7 x 1 = x + 2 := C7.1.2.2.2.1
  have p47 : hR h7 x 4 = x + 8 := C7.1.2.2.2.2.2.1
  have st7 : hS h7 (x + 2) = (18, 7) := C7.2.2.2.1.2.1
  obtain ⟨-, -, T07, -, -, -, -⟩ := C7.un
  simp only [s07, p17, p47, st7, twq_0 T07, true_and, fa7]
  refine ⟨fun z => ?_, fun z => ?_⟩
  · have z := Decidable.not_not.mp z
    have ok := hl_ok hn4 z
    have HI := (R7 z).is ok
    have eo : oHill (nr, nw, A, fo, y, M, ps, ns) tp = (nI (hlF (tpF tp) tp.length).2.1, ((hlF (tpF tp) tp.length).2.1, (hlF (tpF tp) tp.length).2.2.1, (hlF (tpF tp) tp.length).2.2.2, fo, y, begM (hlF (tpF tp) tp.length).2.2.2, [], [])) := if_pos z
    rw [eo] at k
    generalize hlF (tpF tp) tp.length = R at *
    refine sp_settleOn (by omega) (x + 8) (hN h) nr nw R.2.1 R.2.2.1 A R.2.2.2 fo y M ps ns C7.1.1.1 C7.2.1.1 HI (by omega) (fun h8 f8 n8 u8 r1 r0 HT8 => ?_)
    have g15 := (f8.2.2.1 (x + 8 + 7) (by omega) (fun z => by unfold mS at z; omega)).1
    have C8 : CW (upN pz.1 0 (pz.1 0), pz.2) h8 x ((R.2.1, R.2.2.1, R.2.2.2, fo, y, begM R.2.2.2, [], []), cls, [], im) := by
      refine CW.mod (k0 := 0) (T := (nr, nw, A, fo, y, M, ps, ns)) (T' := (R.2.1, R.2.2.1, R.2.2.2, fo, y, begM R.2.2.2, [], [])) C7 (by omega) rfl (f8.mono (fun c _ z => Or.inl (by unfold mS at z; show x + 8 ≤ c ∧ c ≤ x + 8 + 10; omega))) (fun i hi z => Or.inl ⟨i, hi, (g15 i).symm⟩) HT8 ?_ ?_ rfl (fun k hk => ?_) rfl rfl
      · show hR h8 (x + 8) 0 ≠ 0 → x + 145 ≤ hR h8 (x + 8) 0 ∧ 0 < R.2.2.2 0 0
        rw [r0]
        intro _
        refine ⟨hx, ?_⟩
        have := ok.2.2.1.1
        rw [Int32.lt_iff_toInt_lt]
        have e0 : (0 : Int32).toInt = 0 := by decide
        omega
      · have := (C7.ts.2.2.1 0 _ (by omega) rfl).2.2.2
        exact ⟨this.1, fun i hi => by rw [show twR h7 x 0 = x + 8 from rfl, g15]; exact this.2 i hi⟩
      · cases k with
        | zero => exact absurd rfl hk
        | succ s => rfl
    rw [upN_id] at C8
    have sa : hS h8 (hN h) = (13, 8) := by rw [f8.2.1 (hN h) (by omega)]; exact HI.1.1
    have ga : hI h8 (hN h) 1 = nI R.2.1 := by
      rw [(f8.2.2.1 (hN h) (by omega) (fun z => by unfold mS at z; omega)).2.1]
      exact HI.2.1
    simp only [rV_none, sa, ga, rt_i, rt_b0, rt_b1, rt_v, rt_l, rt_o, rt_a, rV_none, rI_some, rL_some, rR_some, rT_some, true_and]
    exact ⟨n8.trans n7, u8.trans u7, k h8 (n8.trans n7) (u8.trans u7) C8⟩
  · have eo : oHill (nr, nw, A, fo, y, M, ps, ns) tp = (-2 - (hlF (tpF tp) tp.length).1, (nr, nw, A, fo, y, M, ps, ns)) := if_neg z
    rw [eo] at k
    rw [rt_i]
    exact ⟨n7, u7, k h7 n7 u7 C7⟩
