theorem CW.fb {pz : PZT} {h h' : AH} {x : Nat} {W : WS} (H : CW pz h x W) (f : Fr' h h' (FB (x + 25))) : CW pz h' x W := by
  have n1 : ∀ k, k = 21 ∨ k = 27 ∨ k = 39 ∨ k = 81 ∨ k = 100 → ¬ FB (x + 25) (x + k) := fun k hk => by unfold FB; omega
  have hs := H.scr
  exact H.frs (FrG.of f) (fun c z => by unfold FB at z; omega) (hs.fr f (fun j hj => by rw [f.2.2.2.2.1 (x + 21) (n1 21 (by decide))]; exact hs.1.2 j hj) (fun j hj => by rw [f.2.2.2.2.1 (x + 27) (n1 27 (by decide))]; exact hs.2.1.2.2.2.2.2 j hj) (fun j hj => by rw [f.2.2.2.2.1 (x + 39) (n1 39 (by decide))]; exact hs.2.2.1.2.2 j hj) (fun j hj => by rw [f.2.2.2.2.1 (x + 81) (n1 81 (by decide))]; exact hs.2.2.2.1.2.2.2.2.2 j hj) (by rw [f.2.2.2.2.1 (x + 100) (n1 100 (by decide))]; exact hs.2.2.2.2.2.2.2))
theorem CW.fc {pz : PZT} {h : AH} {x nr nw ru : Nat} {A M : PC} {fo y : Int32} {ps : List PC} {ns : List (Nat × Nat × Int32)} {cls : List (List (List (Nat × Nat) × List (Nat × Nat)))} {tp : List Int32} {im : Nat → Option TW} {R : Option (List (List (Nat × Nat) × List (Nat × Nat)))} (H : CW pz h x ((nr, nw, A, fo, y, M, ps, ns), cls, tp, im)) (ha : hR h (x + 8) 0 ≠ 0) (HR : RuIs h ru R) (hru : ru ≠ 0 → x + 145 ≤ ru) (e2 : hR h (x + 25) 2 = x + 8) (e3 : hR h (x + 25) 3 = ru) : FC h (x + 25) (x + 8) (hR h (x + 8) 0) ru nr nw A M R := by
  obtain ⟨s0, p4, T0, HH, HM, b1, b2⟩ := H.un
  have hd := H.2.1.2.1 ha
  obtain ⟨q1, q2, q3, q4, q5, q6⟩ := H.scr.2.1
  rcases HH with ⟨c1, -⟩ | ⟨c1, c2⟩
  · exact absurd c1 ha
  have hd1 := hd.1
  exact ⟨⟨q1, q2, q3, e2, e3, rfl⟩, ⟨q4, q5, T0, c2, HR, fun j hj => ⟨q6 j (by omega), fun z => by cases z⟩, HM⟩, Or.inl (by omega), Or.inr (by omega), fun z => Or.inl (by have := hru z; omega)⟩
theorem c_fbegin {pz : PZT} {d : Nat} {h : AH} {Q : Option Value → AH → Prop} {R : Option (List (List (Nat × Nat) × List (Nat × Nat)))} (hd : 7 ≤ d) (x nr nw ru : Nat) (A M : PC) (fo y : Int32) (ps : List PC) (ns : List (Nat × Nat × Int32)) (cls : List (List (List (Nat × Nat) × List (Nat × Nat)))) (tp : List Int32) (im : Nat → Option TW) (H : CW pz h x ((nr, nw, A, fo, y, M, ps, ns), cls, tp, im)) (ha : hR h (x + 8) 0 ≠ 0) (HR : RuIs h ru R) (hru : ru ≠ 0 → x + 145 ≤ ru) (k : ∀ h', hN h' = hN h → hU h' = hU h → CW pz h' x ((nr, nw, A, fo, y, M, ps, ns), cls, tp, im) → FC h' (x + 25) (x + 8) (hR h' (x + 8) 0) ru nr nw A M R → MomIs h' (x + 25 + 6) nr nw M → Q none h') : Calls d nX2_begin [.ref (x + 25), .ref (x + 8), .ref ru] h (hN h) (hU h) Q := by
  obtain ⟨e, rfl⟩ : ∃ e, d = e + 1 := ⟨d - 1, by omega⟩
  obtain ⟨s0, p4, T0, HH, HM, b1, b2⟩ := H.un
  obtain ⟨q1, q2, q3, q4, q5, q6⟩ := H.scr.2.1
  have C1 := CW.rS (i := 2) (v := x + 8) H (b := x + 25) (Or.inl ⟨rfl, by decide⟩)
  have C2 := CW.rS (i := 3) (v := ru) C1 (b := x + 25) (Or.inl ⟨rfl, by decide⟩)
  have R2 : RuIs (sR (sR h (x + 25) 2 (x + 8)) (x + 25) 3 ru) ru R := RuIs.rS (x := x) (RuIs.rS (x := x) HR hru (by omega)) hru (by omega)
  have ea : hR (sR (sR h (x + 25) 2 (x + 8)) (x + 25) 3 ru) (x + 8) 0 = hR h (x + 8) 0 := by rw [hR_sR, if_neg (by omega), hR_sR, if_neg (by omega)]
  have F2 := C2.fc (by rw [ea]; exact ha) R2 hru (by rw [hR_sR, if_pos rfl, if_neg (by decide), hR_sR, if_pos rfl, if_pos rfl]) (by rw [hR_sR, if_pos rfl, if_pos rfl])
  have T2 := F2.2.1.2.2.1
  have h1 := F2.1.2.2.1
  refine wX2_begin (by omega) (x + 25) (x + 8) ru ?_
  simp only [lH_eq, hS_sR, q1, twq_0 T0, h1, twq_1 T2, true_and]
  refine ⟨by rw [q5.1], ?_⟩
  refine fc_become (h := sR (sR h (x + 25) 2 (x + 8)) (x + 25) 3 ru) (by omega) (x + 25) (x + 8) _ ru nr nw A M R F2 (fun h' f gf F3 M3 => ?_)
  rw [rV_none, rt_v]
  have e8 : hR h' (x + 8) 0 = hR (sR (sR h (x + 25) 2 (x + 8)) (x + 25) 3 ru) (x + 8) 0 := f.2.1 _ _
  refine ⟨f.2.2.1, f.2.2.2.1, k h' f.2.2.1 f.2.2.2.1 (C2.fb f) ?_ M3⟩
  rw [e8]
  exact F3
