theorem CW.gb {pz : PZT} {h h' : AH} {x : Nat} {W : WS} (H : CW pz h x W) (f : Fr' h h' (GB (x + 37))) (ho : ∀ q, q < 5 → hI h' (x + 39) q = -2) : CW pz h' x W := by
  have n1 : ∀ k, k = 21 ∨ k = 27 ∨ k = 81 ∨ k = 100 → ¬ GB (x + 37) (x + k) := fun k hk => by unfold GB; omega
  have hs := H.scr
  exact H.frs (FrG.of f) (fun c z => by unfold GB at z; omega) (hs.fr f (fun j hj => by rw [f.2.2.2.2.1 (x + 21) (n1 21 (by decide))]; exact hs.1.2 j hj) (fun j hj => by rw [f.2.2.2.2.1 (x + 27) (n1 27 (by decide))]; exact hs.2.1.2.2.2.2.2 j hj) ho (fun j hj => by rw [f.2.2.2.2.1 (x + 81) (n1 81 (by decide))]; exact hs.2.2.2.1.2.2.2.2.2 j hj) (by rw [f.2.2.2.2.1 (x + 100) (n1 100 (by decide))]; exact hs.2.2.2.2.2.2.2))
theorem CW.cc {pz : PZT} {h : AH} {x nr nw ru : Nat} {A M : PC} {fo y : Int32} {ps : List PC} {ns : List (Nat × Nat × Int32)} {cls : List (List (List (Nat × Nat) × List (Nat × Nat)))} {tp : List Int32} {im : Nat → Option TW} {R : Option (List (List (Nat × Nat) × List (Nat × Nat)))} (H : CW pz h x ((nr, nw, A, fo, y, M, ps, ns), cls, tp, im)) (ha : hR h (x + 8) 0 ≠ 0) (HR : RuIs h ru R) (hru : ru ≠ 0 → x + 145 ≤ ru) (e2 : hR h (x + 37) 9 = x + 8) (e3 : hR h (x + 37) 10 = ru) : CC h (x + 37) (x + 8) (hR h (x + 8) 0) ru nr nw A M R := by
  obtain ⟨s0, p4, T0, HH, HM, b1, b2⟩ := H.un
  have hd := (H.2.1.2.1 ha).1
  have d1 : x + 37 + 42 ≤ hR h (x + 8) 0 := by omega
  have d2 : x + 8 + 11 ≤ x + 37 := by omega
  have d3 : ru ≠ 0 → x + 37 + 42 ≤ ru := fun z => by have := hru z; omega
  rcases HH with ⟨c1, -⟩ | ⟨c1, c2⟩
  · exact absurd c1 ha
  obtain ⟨⟨q0, q1, q2, q3, q4, q5, q6, q7, q8⟩, q9, q10⟩ := H.scr.2.2.1
  exact ⟨⟨q0, q1, q2, q3, q4, q5, q6, q7, q8, e2, e3, rfl⟩, q9, ⟨T0, c2, HR, HM⟩, Or.inl d1, Or.inr d2, fun z => Or.inl (d3 z)⟩
theorem c_cbegin {pz : PZT} {d : Nat} {h : AH} {Q : Option Value → AH → Prop} {R : Option (List (List (Nat × Nat) × List (Nat × Nat)))} (hd : 7 ≤ d) (x nr nw ru : Nat) (A M : PC) (fo y : Int32) (ps : List PC) (ns : List (Nat × Nat × Int32)) (cls : List (List (List (Nat × Nat) × List (Nat × Nat)))) (tp : List Int32) (im : Nat → Option TW) (H : CW pz h x ((nr, nw, A, fo, y, M, ps, ns), cls, tp, im)) (ha : hR h (x + 8) 0 ≠ 0) (HR : RuIs h ru R) (hru : ru ≠ 0 → x + 145 ≤ ru) (k : ∀ h', hN h' = hN h → hU h' = hU h → CW pz h' x ((nr, nw, A, fo, y, M, ps, ns), cls, tp, im) → CC h' (x + 37) (x + 8) (hR h' (x + 8) 0) ru nr nw A M R → hI h' (x + 37) 8 = -1 → Q none h') : Calls d nX0_begin [.ref (x + 37), .ref (x + 8), .ref ru] h (hN h) (hU h) Q := by
  obtain ⟨e, rfl⟩ : ∃ e, d = e + 1 := ⟨d - 1, by omega⟩
  have q0 := H.scr.2.2.1.1.1
  have C1 := CW.rS (i := 9) (v := x + 8) H (b := x + 37) (Or.inr ⟨rfl, by decide⟩)
  have C2 := CW.rS (i := 10) (v := ru) C1 (b := x + 37) (Or.inr ⟨rfl, by decide⟩)
  have R2 : RuIs (sR (sR h (x + 37) 9 (x + 8)) (x + 37) 10 ru) ru R := RuIs.rS (x := x) (RuIs.rS (x := x) HR hru (by omega)) hru (by omega)
  have f3 : Fr' (sR (sR h (x + 37) 9 (x + 8)) (x + 37) 10 ru) (sI (sR (sR h (x + 37) 9 (x + 8)) (x + 37) 10 ru) (x + 37) 8 (-1)) (fun c => c = x + 37) := Fr'.sI rfl
  have C3 := C2.gb (f3.mono (fun c z => Or.inl z)) (fun q hq => by rw [f3.2.2.2.2.1 (x + 39) (by omega)]; exact C2.scr.2.2.1.2.2 q hq)
  have R3 := R2.fr f3 (fun z => by have := hru z; omega)
  have ea : hR (sI (sR (sR h (x + 37) 9 (x + 8)) (x + 37) 10 ru) (x + 37) 8 (-1)) (x + 8) 0 = hR h (x + 8) 0 := by rw [f3.2.1, hR_sR, if_neg (by omega), hR_sR, if_neg (by omega)]
  have F3 := C3.cc (by rw [ea]; exact ha) R3 hru (by rw [f3.2.1, hR_sR, if_pos rfl, if_neg (by decide), hR_sR, if_pos rfl, if_pos rfl]) (by rw [f3.2.1, hR_sR, if_pos rfl, if_pos rfl])
  refine wX0_begin (by omega) (x + 37) (x + 8) ru ?_
  simp only [lH_eq, hS_sR, q0, true_and, rt_v]
  exact ⟨rfl, rfl, k _ rfl rfl C3 F3 (by rw [hI_sI, if_pos rfl, if_pos rfl])⟩
theorem c_ask2 {pz : PZT} {d : Nat} {h : AH} {Q : Option Value → AH → Prop} (hd : 8 ≤ d) (x nr nw : Nat) (A M : PC) (fo y : Int32) (ps : List PC) (ns : List (Nat × Nat × Int32)) (cls : List (List (List (Nat × Nat) × List (Nat × Nat)))) (tp : List Int32) (im : Nat → Option TW) (H : CW pz h x ((nr, nw, A, fo, y, M, ps, ns), cls, tp, im)) (ok : wsOk ((nr, nw, A, fo, y, M, ps, ns), cls, tp, im)) (ha : hR h (x + 8) 0 ≠ 0) (k : ∀ ru h', hN h' = hN h → hU h' = hU h → CW pz h' x ((nr, nw, A, fo, y, M, ps, ns), cls, tp, im) → CC h' (x + 37) (x + 8) (hR h' (x + 8) 0) ru nr nw A M (foR cls fo) → hI h' (x + 37) 8 = -1 → Q none h') : Calls d nX11_ruleInForce [.ref x] h (hN h) (hU h) (fun r h1 => rR r fun x12 => (hS h1 (x + 37)).1 = 10 + 0 ∧ Calls d nX0_begin [.ref (x + 37), .ref (x + 8), .ref x12] h1 (hN h1) (hU h1) Q) := by
  refine c_rule (by omega) x nr nw A M fo y ps ns cls tp im H ok (fun ru HR hru => ?_)
  have q1 := H.scr.2.2.1.1.1
  simp only [rR_some, q1, true_and]
  exact c_cbegin (by omega) x nr nw ru A M fo y ps ns cls tp im H ha HR hru (fun h' e1 e2 C F M0 => k ru h' e1 e2 C F M0)
