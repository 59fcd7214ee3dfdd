/-! the constructors, on the empty heap -/
/-- a new cell, by its number -/
def nK (h : AH) (c k n u : Nat) : AH := (up1 h.1 c (k, n), up1 h.2.1 c (fun _ => 0), up1 h.2.2.1 c (fun _ => 0), up1 h.2.2.2.1 c (fun _ => 0), c + 1, u)
def nQ (h : AH) (c n k u : Nat) : AH := (fun b => if b = c then (8, n) else if c < b ∧ b ≤ c + n then (1, k) else h.1 b, fun b i => if c ≤ b ∧ b ≤ c + n then 0 else h.2.1 b i, fun b i => if c ≤ b ∧ b ≤ c + n then 0 else h.2.2.1 b i, fun b i => if b = c then (if i < n then c + 1 + i else 0) else if c < b ∧ b ≤ c + n then 0 else h.2.2.2.1 b i, c + 1 + n, u)
theorem nC_nK {h : AH} {c k n u : Nat} (e : hN h = c) (e2 : hU h + n = u) : nC h k n = nK h c k n u := by subst e; subst e2; rfl
theorem nM_nQ {h : AH} {c n k u : Nat} (e : hN h = c) (e2 : hU h + n + n * k = u) : nM h n k = nQ h c n k u := by subst e; subst e2; rfl
theorem lHg {e g : AH} {K : AH → Prop} (q : e = g) (k : K g) : lH e K := fun h' z => by rw [z, q]; exact k
theorem rV0 {k : Prop} (h : k) : rV none k := h
def flI (a : Nat) (x : Int32) : Nat → Nat → AH → AH
  | 0, _, h => h
  | k + 1, i, h => flI a x k (i + 1) (sI h a i x)
theorem fill_ex {d E1 E2 : Nat} {Q : Option Value → AH → Prop} (hd : 4 ≤ d) (a n : Nat) (x : Int32) (hn : n < 2 ^ 31) : ∀ (k i : Nat) (h : AH), i + k = n → hS h a = (1, n) → hN h = E1 → hU h = E2 → Q none (flI a x k i h) → Reach d nJ7_fill_53178 (5, [.ref a, .int x, .int (nI i), .int (nI n)], []) h E1 E2 Q
  | 0, i, h, hi, hs, e1, e2, k => by
    refine wJ7_fill_53178_5 hd a x (nI i) (nI n) ⟨fun _ => ?_, fun z => absurd (nI_le (by omega) (by omega)) z⟩
    rw [rt_v]
    exact ⟨e1, e2, k⟩
  | m + 1, i, h, hi, hs, e1, e2, k => by
    refine wJ7_fill_53178_5 hd a x (nI i) (nI n) ⟨fun z => absurd z (nI_ge (by omega) hn), fun _ => ⟨by rw [hs], by rw [hs]; exact vp_in_nI (by omega) hn, ?_⟩⟩
    rw [lH_eq, nI_clamp (by omega), nI_1]
    exact fill_ex hd a n x hn m (i + 1) (sI h a i x) (by omega) hs e1 e2 k
theorem ex_fill {d : Nat} {h : AH} {Q : Option Value → AH → Prop} (hd : 5 ≤ d) (a n : Nat) (x : Int32) (hs : hS h a = (1, n)) (hn : n < 2 ^ 31) (k : Q none (flI a x n 0 h)) : Calls d nJ7_fill_53178 [.ref a, .int x] h (hN h) (hU h) Q := by
  obtain ⟨e, rfl⟩ : ∃ e, d = e + 1 := ⟨d - 1, by omega⟩
  refine wJ7_fill_53178 (by omega) a x ⟨by simp [hs], by simp [hs], ?_⟩
  rw [hs]
  exact fill_ex (by omega) a n x hn n 0 h (by omega) hs rfl rfl k
def g0 : AH := (fun _ => (0, 0), fun _ _ => 0, fun _ _ => 0, fun _ _ => 0, 1, 0)
def g1 : AH := nK g0 1 21 11 11
def g2 : AH := nK g1 2 17 11 22
def g3 : AH := nK g2 3 18 7 29
def g4 : AH := nK g3 4 2 400 429
def g5 : AH := sR g4 3 0 4
def g6 : AH := sI g5 3 1 0
def g7 : AH := sI g6 3 2 0
def g8 : AH := sI g7 3 3 0
def g9 : AH := sI g8 3 4 0
def g10 : AH := sI g9 3 5 0
def g11 : AH := sI g10 3 6 0
theorem i3_8 {d : Nat} {Q : Option Value → AH → Prop} (hd : 5 ≤ d) (k : Q none g11) : Calls d nX8_init [.ref 3] g3 5 429 Q := by
  obtain ⟨e, rfl⟩ : ∃ e, d = e + 1 := ⟨d - 1, by omega⟩
  refine wX8_init (E1 := 5) (E2 := 429) (by omega) (by decide +kernel) (by decide +kernel) 3 ?_
  refine ⟨by decide +kernel, ?_⟩
  refine ⟨by decide, by decide, by decide +kernel, by decide +kernel, lHg (g := g4) (nC_nK (by decide +kernel) (by decide +kernel)) ⟨by decide +kernel, lHg (g := g5) rfl ?_⟩⟩
  refine ⟨by decide +kernel, lHg (g := g6) rfl ?_⟩
  refine ⟨by decide +kernel, lHg (g := g7) rfl ?_⟩
  refine ⟨by decide +kernel, lHg (g := g8) rfl ?_⟩
  refine ⟨by decide +kernel, lHg (g := g9) rfl ?_⟩
  refine ⟨by decide +kernel, lHg (g := g10) rfl ?_⟩
  refine ⟨by decide +kernel, lHg (g := g11) rfl ?_⟩
  rw [rt_v]
  exact ⟨by decide +kernel, by decide +kernel, k⟩
def g12 : AH := sR g11 2 0 3
def g13 : AH := nK g12 5 1 400 829
def g14 : AH := sR g13 2 1 5
def g15 : AH := nK g14 6 1 35 864
def g16 : AH := sR g15 2 2 6
def g17 : AH := nK g16 7 1 25 889
def g18 : AH := sR g17 2 3 7
def g19 : AH := sI g18 2 4 0
def g20 : AH := sI g19 2 5 0
def g21 : AH := sI g20 2 6 0
def g22 : AH := sI g21 2 7 0
def g23 : AH := sI g22 2 8 0
def g24 : AH := sI g23 2 9 0
def g25 : AH := sI g24 2 10 0
theorem i2_7 {d : Nat} {Q : Option Value → AH → Prop} (hd : 6 ≤ d) (k : Q none g25) : Calls d nX7_init [.ref 2] g2 8 889 Q := by
  obtain ⟨e, rfl⟩ : ∃ e, d = e + 1 := ⟨d - 1, by omega⟩
  refine wX7_init (E1 := 8) (E2 := 889) (by omega) (by decide +kernel) (by decide +kernel) 2 ?_
  refine ⟨by decide +kernel, ?_⟩
  refine ⟨by decide +kernel, by decide +kernel, lHg (g := g3) (nC_nK (by decide +kernel) (by decide +kernel)) ⟨by decide +kernel, 5, 429, by decide +kernel, by decide +kernel, ?_⟩⟩
  refine i3_8 (by omega) (rV0 ⟨by decide +kernel, lHg (g := g12) rfl ?_⟩)
  refine ⟨by decide, by decide, by decide +kernel, by decide +kernel, lHg (g := g13) (nC_nK (by decide +kernel) (by decide +kernel)) ⟨by decide +kernel, lHg (g := g14) rfl ?_⟩⟩
  refine ⟨by decide, by decide, by decide +kernel, by decide +kernel, lHg (g := g15) (nC_nK (by decide +kernel) (by decide +kernel)) ⟨by decide +kernel, lHg (g := g16) rfl ?_⟩⟩
  refine ⟨by decide, by decide, by decide +kernel, by decide +kernel, lHg (g := g17) (nC_nK (by decide +kernel) (by decide +kernel)) ⟨by decide +kernel, lHg (g := g18) rfl ?_⟩⟩
  refine ⟨by decide +kernel, lHg (g := g19) rfl ?_⟩
  refine ⟨by decide +kernel, lHg (g := g20) rfl ?_⟩
  refine ⟨by decide +kernel, lHg (g := g21) rfl ?_⟩
  refine ⟨by decide +kernel, lHg (g := g22) rfl ?_⟩
  refine ⟨by decide +kernel, lHg (g := g23) rfl ?_⟩
  refine ⟨by decide +kernel, lHg (g := g24) rfl ?_⟩
  refine ⟨by decide +kernel, lHg (g := g25) rfl ?_⟩
  rw [rt_v]
  exact ⟨by decide +kernel, by decide +kernel, k⟩
def g26 : AH := sR g25 1 0 2
def g27 : AH := sR g26 1 1 3
def g28 : AH := nK g27 8 5 6 895
def g29 : AH := sR g28 1 2 8
def g30 : AH := sI g29 1 3 0
def g31 : AH := nK g30 9 19 10 905
def g32 : AH := sR g31 9 0 0
def g33 : AH := sI g32 9 1 (-1)
def g34 : AH := sI g33 9 2 0
def g35 : AH := nK g34 10 14 6 911
def g36 : AH := sI g35 10 0 0
def g37 : AH := nK g36 11 1 5 916
def g38 : AH := sR g37 10 1 11
def g39 : AH := nK g38 12 1 5 921
def g40 : AH := sR g39 10 2 12
def g41 : AH := nK g40 13 1 5 926
def g42 : AH := sR g41 10 3 13
def g43 : AH := nK g42 14 1 6 932
def g44 : AH := sR g43 10 4 14
def g45 : AH := nK g44 15 1 6 938
def g46 : AH := sR g45 10 5 15
theorem i5_4 {d : Nat} {Q : Option Value → AH → Prop} (hd : 5 ≤ d) (k : Q none g46) : Calls d nX4_init [.ref 10] g35 16 938 Q := by
  obtain ⟨e, rfl⟩ : ∃ e, d = e + 1 := ⟨d - 1, by omega⟩
  refine wX4_init (E1 := 16) (E2 := 938) (by omega) (by decide +kernel) (by decide +kernel) 10 ?_
  refine ⟨by decide +kernel, ?_⟩
  refine ⟨by decide +kernel, lHg (g := g36) rfl ?_⟩
  refine ⟨by decide, by decide, by decide +kernel, by decide +kernel, lHg (g := g37) (nC_nK (by decide +kernel) (by decide +kernel)) ⟨by decide +kernel, lHg (g := g38) rfl ?_⟩⟩
  refine ⟨by decide, by decide, by decide +kernel, by decide +kernel, lHg (g := g39) (nC_nK (by decide +kernel) (by decide +kernel)) ⟨by decide +kernel, lHg (g := g40) rfl ?_⟩⟩
  refine ⟨by decide, by decide, by decide +kernel, by decide +kernel, lHg (g := g41) (nC_nK (by decide +kernel) (by decide +kernel)) ⟨by decide +kernel, lHg (g := g42) rfl ?_⟩⟩
  refine ⟨by decide, by decide, by decide +kernel, by decide +kernel, lHg (g := g43) (nC_nK (by decide +kernel) (by decide +kernel)) ⟨by decide +kernel, lHg (g := g44) rfl ?_⟩⟩
  refine ⟨by decide, by decide, by decide +kernel, by decide +kernel, lHg (g := g45) (nC_nK (by decide +kernel) (by decide +kernel)) ⟨by decide +kernel, lHg (g := g46) rfl ?_⟩⟩
  rw [rt_v]
  exact ⟨by decide +kernel, by decide +kernel, k⟩
def g47 : AH := sR g46 9 3 10
def g48 : AH := nK g47 16 7 20 958
def g49 : AH := sR g48 9 4 16
def g50 : AH := sI g49 9 5 0
def g51 : AH := nK g50 17 1 10 968
def g52 : AH := sR g51 9 6 17
def g53 : AH := nK g52 18 1 10 978
def g54 : AH := sR g53 9 7 18
def g55 : AH := nK g54 19 1 10 988
def g56 : AH := sR g55 9 8 19
def g57 : AH := sI g56 9 9 0
theorem i4_9 {d : Nat} {Q : Option Value → AH → Prop} (hd : 6 ≤ d) (k : Q none g57) : Calls d nX9_init [.ref 9] g31 20 988 Q := by
  obtain ⟨e, rfl⟩ : ∃ e, d = e + 1 := ⟨d - 1, by omega⟩
  refine wX9_init (E1 := 20) (E2 := 988) (by omega) (by decide +kernel) (by decide +kernel) 9 ?_
  refine ⟨by decide +kernel, ?_⟩
  refine ⟨by decide +kernel, lHg (g := g32) rfl ?_⟩
  refine ⟨by decide +kernel, lHg (g := g33) rfl ?_⟩
  refine ⟨by decide +kernel, lHg (g := g34) rfl ?_⟩
  refine ⟨by decide +kernel, by decide +kernel, lHg (g := g35) (nC_nK (by decide +kernel) (by decide +kernel)) ⟨by decide +kernel, 16, 938, by decide +kernel, by decide +kernel, ?_⟩⟩
  refine i5_4 (by omega) (rV0 ⟨by decide +kernel, lHg (g := g47) rfl ?_⟩)
  refine ⟨by decide, by decide, by decide +kernel, by decide +kernel, lHg (g := g48) (nC_nK (by decide +kernel) (by decide +kernel)) ⟨by decide +kernel, lHg (g := g49) rfl ?_⟩⟩
  refine ⟨by decide +kernel, lHg (g := g50) rfl ?_⟩
  refine ⟨by decide, by decide, by decide +kernel, by decide +kernel, lHg (g := g51) (nC_nK (by decide +kernel) (by decide +kernel)) ⟨by decide +kernel, lHg (g := g52) rfl ?_⟩⟩
  refine ⟨by decide, by decide, by decide +kernel, by decide +kernel, lHg (g := g53) (nC_nK (by decide +kernel) (by decide +kernel)) ⟨by decide +kernel, lHg (g := g54) rfl ?_⟩⟩
  refine ⟨by decide, by decide, by decide +kernel, by decide +kernel, lHg (g := g55) (nC_nK (by decide +kernel) (by decide +kernel)) ⟨by decide +kernel, lHg (g := g56) rfl ?_⟩⟩
  refine ⟨by decide +kernel, lHg (g := g57) rfl ?_⟩
  rw [rt_v]
  exact ⟨by decide +kernel, by decide +kernel, k⟩
def g58 : AH := sR g57 1 4 9
def g59 : AH := nK g58 20 6 4 992
def g60 : AH := sR g59 1 5 20
def g61 : AH := nK g60 21 11 4 996
def g62 : AH := nK g61 22 1 5 1001
def g63 : AH := sR g62 21 0 22
def g64 : AH := nK g63 23 1 5 1006
def g65 : AH := sR g64 21 1 23
def g66 : AH := nK g65 24 4 12 1018
def g67 : AH := sR g66 21 2 24
def g68 : AH := nK g67 25 4 60 1078
def g69 : AH := sR g68 21 3 25
def g70 : AH := flI 22 (-2) 5 0 g69
theorem i6_1 {d : Nat} {Q : Option Value → AH → Prop} (hd : 6 ≤ d) (k : Q none g70) : Calls d nX1_init [.ref 21] g61 26 1078 Q := by
  obtain ⟨e, rfl⟩ : ∃ e, d = e + 1 := ⟨d - 1, by omega⟩
  refine wX1_init (E1 := 26) (E2 := 1078) (by omega) (by decide +kernel) (by decide +kernel) 21 ?_
  refine ⟨by decide +kernel, ?_⟩
  refine ⟨by decide, by decide, by decide +kernel, by decide +kernel, lHg (g := g62) (nC_nK (by decide +kernel) (by decide +kernel)) ⟨by decide +kernel, lHg (g := g63) rfl ?_⟩⟩
  refine ⟨by decide, by decide, by decide +kernel, by decide +kernel, lHg (g := g64) (nC_nK (by decide +kernel) (by decide +kernel)) ⟨by decide +kernel, lHg (g := g65) rfl ?_⟩⟩
  refine ⟨by decide, by decide, by decide +kernel, by decide +kernel, lHg (g := g66) (nC_nK (by decide +kernel) (by decide +kernel)) ⟨by decide +kernel, lHg (g := g67) rfl ?_⟩⟩
  refine ⟨by decide, by decide, by decide +kernel, by decide +kernel, lHg (g := g68) (nC_nK (by decide +kernel) (by decide +kernel)) ⟨by decide +kernel, lHg (g := g69) rfl ?_⟩⟩
  refine ⟨by decide +kernel, ?_⟩
  rw [show hR g69 21 0 = 22 from by decide +kernel]
  refine ex_fill (by omega) 22 5 (-2) (by decide +kernel) (by decide) (rV0 ?_)
  change RtOf none 26 1078 _ none g70
  rw [rt_v]
  exact ⟨by decide +kernel, by decide +kernel, k⟩
def g71 : AH := sR g70 1 6 21
def g72 : AH := nK g71 26 12 5 1083
def g73 : AH := nK g72 27 11 4 1087
def g74 : AH := nK g73 28 1 5 1092
def g75 : AH := sR g74 27 0 28
def g76 : AH := nK g75 29 1 5 1097
def g77 : AH := sR g76 27 1 29
def g78 : AH := nK g77 30 4 12 1109
def g79 : AH := sR g78 27 2 30
def g80 : AH := nK g79 31 4 60 1169
def g81 : AH := sR g80 27 3 31
def g82 : AH := flI 28 (-2) 5 0 g81
theorem i8_1 {d : Nat} {Q : Option Value → AH → Prop} (hd : 6 ≤ d) (k : Q none g82) : Calls d nX1_init [.ref 27] g73 32 1169 Q := by
  obtain ⟨e, rfl⟩ : ∃ e, d = e + 1 := ⟨d - 1, by omega⟩
  refine wX1_init (E1 := 32) (E2 := 1169) (by omega) (by decide +kernel) (by decide +kernel) 27 ?_
  refine ⟨by decide +kernel, ?_⟩
  refine ⟨by decide, by decide, by decide +kernel, by decide +kernel, lHg (g := g74) (nC_nK (by decide +kernel) (by decide +kernel)) ⟨by decide +kernel, lHg (g := g75) rfl ?_⟩⟩
  refine ⟨by decide, by decide, by decide +kernel, by decide +kernel, lHg (g := g76) (nC_nK (by decide +kernel) (by decide +kernel)) ⟨by decide +kernel, lHg (g := g77) rfl ?_⟩⟩
  refine ⟨by decide, by decide, by decide +kernel, by decide +kernel, lHg (g := g78) (nC_nK (by decide +kernel) (by decide +kernel)) ⟨by decide +kernel, lHg (g := g79) rfl ?_⟩⟩
  refine ⟨by decide, by decide, by decide +kernel, by decide +kernel, lHg (g := g80) (nC_nK (by decide +kernel) (by decide +kernel)) ⟨by decide +kernel, lHg (g := g81) rfl ?_⟩⟩
  refine ⟨by decide +kernel, ?_⟩
  rw [show hR g81 27 0 = 28 from by decide +kernel]
  refine ex_fill (by omega) 28 5 (-2) (by decide +kernel) (by decide) (rV0 ?_)
  change RtOf none 32 1169 _ none g82
  rw [rt_v]
  exact ⟨by decide +kernel, by decide +kernel, k⟩
def g83 : AH := sR g82 26 0 27
def g84 : AH := nK g83 32 14 6 1175
def g85 : AH := sI g84 32 0 0
def g86 : AH := nK g85 33 1 5 1180
def g87 : AH := sR g86 32 1 33
def g88 : AH := nK g87 34 1 5 1185
def g89 : AH := sR g88 32 2 34
def g90 : AH := nK g89 35 1 5 1190
def g91 : AH := sR g90 32 3 35
def g92 : AH := nK g91 36 1 6 1196
def g93 : AH := sR g92 32 4 36
def g94 : AH := nK g93 37 1 6 1202
def g95 : AH := sR g94 32 5 37
theorem i9_4 {d : Nat} {Q : Option Value → AH → Prop} (hd : 5 ≤ d) (k : Q none g95) : Calls d nX4_init [.ref 32] g84 38 1202 Q := by
  obtain ⟨e, rfl⟩ : ∃ e, d = e + 1 := ⟨d - 1, by omega⟩
  refine wX4_init (E1 := 38) (E2 := 1202) (by omega) (by decide +kernel) (by decide +kernel) 32 ?_
  refine ⟨by decide +kernel, ?_⟩
  refine ⟨by decide +kernel, lHg (g := g85) rfl ?_⟩
  refine ⟨by decide, by decide, by decide +kernel, by decide +kernel, lHg (g := g86) (nC_nK (by decide +kernel) (by decide +kernel)) ⟨by decide +kernel, lHg (g := g87) rfl ?_⟩⟩
  refine ⟨by decide, by decide, by decide +kernel, by decide +kernel, lHg (g := g88) (nC_nK (by decide +kernel) (by decide +kernel)) ⟨by decide +kernel, lHg (g := g89) rfl ?_⟩⟩
  refine ⟨by decide, by decide, by decide +kernel, by decide +kernel, lHg (g := g90) (nC_nK (by decide +kernel) (by decide +kernel)) ⟨by decide +kernel, lHg (g := g91) rfl ?_⟩⟩
  refine ⟨by decide, by decide, by decide +kernel, by decide +kernel, lHg (g := g92) (nC_nK (by decide +kernel) (by decide +kernel)) ⟨by decide +kernel, lHg (g := g93) rfl ?_⟩⟩
  refine ⟨by decide, by decide, by decide +kernel, by decide +kernel, lHg (g := g94) (nC_nK (by decide +kernel) (by decide +kernel)) ⟨by decide +kernel, lHg (g := g95) rfl ?_⟩⟩
  rw [rt_v]
  exact ⟨by decide +kernel, by decide +kernel, k⟩
def g96 : AH := sR g95 26 1 32
def g97 : AH := sR g96 26 2 0
def g98 : AH := sR g97 26 3 0
def g99 : AH := sI g98 26 4 0
theorem i7_2 {d : Nat} {Q : Option Value → AH → Prop} (hd : 7 ≤ d) (k : Q none g99) : Calls d nX2_init [.ref 26] g72 38 1202 Q := by
  obtain ⟨e, rfl⟩ : ∃ e, d = e + 1 := ⟨d - 1, by omega⟩
  refine wX2_init (E1 := 38) (E2 := 1202) (by omega) (by decide +kernel) (by decide +kernel) 26 ?_
  refine ⟨by decide +kernel, ?_⟩
  refine ⟨by decide +kernel, by decide +kernel, lHg (g := g73) (nC_nK (by decide +kernel) (by decide +kernel)) ⟨by decide +kernel, 32, 1169, by decide +kernel, by decide +kernel, ?_⟩⟩
  refine i8_1 (by omega) (rV0 ⟨by decide +kernel, lHg (g := g83) rfl ?_⟩)
  refine ⟨by decide +kernel, by decide +kernel, lHg (g := g84) (nC_nK (by decide +kernel) (by decide +kernel)) ⟨by decide +kernel, 38, 1202, by decide +kernel, by decide +kernel, ?_⟩⟩
  refine i9_4 (by omega) (rV0 ⟨by decide +kernel, lHg (g := g96) rfl ?_⟩)
  refine ⟨by decide +kernel, lHg (g := g97) rfl ?_⟩
  refine ⟨by decide +kernel, lHg (g := g98) rfl ?_⟩
  refine ⟨by decide +kernel, lHg (g := g99) rfl ?_⟩
  rw [rt_v]
  exact ⟨by decide +kernel, by decide +kernel, k⟩
def g100 : AH := sR g99 1 7 26
def g101 : AH := nK g100 38 10 11 1213
def g102 : AH := nK g101 39 11 4 1217
def g103 : AH := nK g102 40 1 5 1222
def g104 : AH := sR g103 39 0 40
def g105 : AH := nK g104 41 1 5 1227
def g106 : AH := sR g105 39 1 41
def g107 : AH := nK g106 42 4 12 1239
def g108 : AH := sR g107 39 2 42
def g109 : AH := nK g108 43 4 60 1299
def g110 : AH := sR g109 39 3 43
def g111 : AH := flI 40 (-2) 5 0 g110
theorem i11_1 {d : Nat} {Q : Option Value → AH → Prop} (hd : 6 ≤ d) (k : Q none g111) : Calls d nX1_init [.ref 39] g102 44 1299 Q := by
  obtain ⟨e, rfl⟩ : ∃ e, d = e + 1 := ⟨d - 1, by omega⟩
  refine wX1_init (E1 := 44) (E2 := 1299) (by omega) (by decide +kernel) (by decide +kernel) 39 ?_
  refine ⟨by decide +kernel, ?_⟩
  refine ⟨by decide, by decide, by decide +kernel, by decide +kernel, lHg (g := g103) (nC_nK (by decide +kernel) (by decide +kernel)) ⟨by decide +kernel, lHg (g := g104) rfl ?_⟩⟩
  refine ⟨by decide, by decide, by decide +kernel, by decide +kernel, lHg (g := g105) (nC_nK (by decide +kernel) (by decide +kernel)) ⟨by decide +kernel, lHg (g := g106) rfl ?_⟩⟩
  refine ⟨by decide, by decide, by decide +kernel, by decide +kernel, lHg (g := g107) (nC_nK (by decide +kernel) (by decide +kernel)) ⟨by decide +kernel, lHg (g := g108) rfl ?_⟩⟩
  refine ⟨by decide, by decide, by decide +kernel, by decide +kernel, lHg (g := g109) (nC_nK (by decide +kernel) (by decide +kernel)) ⟨by decide +kernel, lHg (g := g110) rfl ?_⟩⟩
  refine ⟨by decide +kernel, ?_⟩
  rw [show hR g110 39 0 = 40 from by decide +kernel]
  refine ex_fill (by omega) 40 5 (-2) (by decide +kernel) (by decide) (rV0 ?_)
  change RtOf none 44 1299 _ none g111
  rw [rt_v]
  exact ⟨by decide +kernel, by decide +kernel, k⟩
def g112 : AH := sR g111 38 0 39
def g113 : AH := nK g112 44 14 6 1305
def g114 : AH := sI g113 44 0 0
def g115 : AH := nK g114 45 1 5 1310
def g116 : AH := sR g115 44 1 45
def g117 : AH := nK g116 46 1 5 1315
def g118 : AH := sR g117 44 2 46
def g119 : AH := nK g118 47 1 5 1320
def g120 : AH := sR g119 44 3 47
def g121 : AH := nK g120 48 1 6 1326
def g122 : AH := sR g121 44 4 48
def g123 : AH := nK g122 49 1 6 1332
def g124 : AH := sR g123 44 5 49
theorem i12_4 {d : Nat} {Q : Option Value → AH → Prop} (hd : 5 ≤ d) (k : Q none g124) : Calls d nX4_init [.ref 44] g113 50 1332 Q := by
  obtain ⟨e, rfl⟩ : ∃ e, d = e + 1 := ⟨d - 1, by omega⟩
  refine wX4_init (E1 := 50) (E2 := 1332) (by omega) (by decide +kernel) (by decide +kernel) 44 ?_
  refine ⟨by decide +kernel, ?_⟩
  refine ⟨by decide +kernel, lHg (g := g114) rfl ?_⟩
  refine ⟨by decide, by decide, by decide +kernel, by decide +kernel, lHg (g := g115) (nC_nK (by decide +kernel) (by decide +kernel)) ⟨by decide +kernel, lHg (g := g116) rfl ?_⟩⟩
  refine ⟨by decide, by decide, by decide +kernel, by decide +kernel, lHg (g := g117) (nC_nK (by decide +kernel) (by decide +kernel)) ⟨by decide +kernel, lHg (g := g118) rfl ?_⟩⟩
  refine ⟨by decide, by decide, by decide +kernel, by decide +kernel, lHg (g := g119) (nC_nK (by decide +kernel) (by decide +kernel)) ⟨by decide +kernel, lHg (g := g120) rfl ?_⟩⟩
  refine ⟨by decide, by decide, by decide +kernel, by decide +kernel, lHg (g := g121) (nC_nK (by decide +kernel) (by decide +kernel)) ⟨by decide +kernel, lHg (g := g122) rfl ?_⟩⟩
  refine ⟨by decide, by decide, by decide +kernel, by decide +kernel, lHg (g := g123) (nC_nK (by decide +kernel) (by decide +kernel)) ⟨by decide +kernel, lHg (g := g124) rfl ?_⟩⟩
  rw [rt_v]
  exact ⟨by decide +kernel, by decide +kernel, k⟩
def g125 : AH := sR g124 38 1 44
def g126 : AH := nK g125 50 14 6 1338
def g127 : AH := sI g126 50 0 0
def g128 : AH := nK g127 51 1 5 1343
def g129 : AH := sR g128 50 1 51
def g130 : AH := nK g129 52 1 5 1348
def g131 : AH := sR g130 50 2 52
def g132 : AH := nK g131 53 1 5 1353
def g133 : AH := sR g132 50 3 53
def g134 : AH := nK g133 54 1 6 1359
def g135 : AH := sR g134 50 4 54
def g136 : AH := nK g135 55 1 6 1365
def g137 : AH := sR g136 50 5 55
theorem i13_4 {d : Nat} {Q : Option Value → AH → Prop} (hd : 5 ≤ d) (k : Q none g137) : Calls d nX4_init [.ref 50] g126 56 1365 Q := by
  obtain ⟨e, rfl⟩ : ∃ e, d = e + 1 := ⟨d - 1, by omega⟩
  refine wX4_init (E1 := 56) (E2 := 1365) (by omega) (by decide +kernel) (by decide +kernel) 50 ?_
  refine ⟨by decide +kernel, ?_⟩
  refine ⟨by decide +kernel, lHg (g := g127) rfl ?_⟩
  refine ⟨by decide, by decide, by decide +kernel, by decide +kernel, lHg (g := g128) (nC_nK (by decide +kernel) (by decide +kernel)) ⟨by decide +kernel, lHg (g := g129) rfl ?_⟩⟩
  refine ⟨by decide, by decide, by decide +kernel, by decide +kernel, lHg (g := g130) (nC_nK (by decide +kernel) (by decide +kernel)) ⟨by decide +kernel, lHg (g := g131) rfl ?_⟩⟩
  refine ⟨by decide, by decide, by decide +kernel, by decide +kernel, lHg (g := g132) (nC_nK (by decide +kernel) (by decide +kernel)) ⟨by decide +kernel, lHg (g := g133) rfl ?_⟩⟩
  refine ⟨by decide, by decide, by decide +kernel, by decide +kernel, lHg (g := g134) (nC_nK (by decide +kernel) (by decide +kernel)) ⟨by decide +kernel, lHg (g := g135) rfl ?_⟩⟩
  refine ⟨by decide, by decide, by decide +kernel, by decide +kernel, lHg (g := g136) (nC_nK (by decide +kernel) (by decide +kernel)) ⟨by decide +kernel, lHg (g := g137) rfl ?_⟩⟩
  rw [rt_v]
  exact ⟨by decide +kernel, by decide +kernel, k⟩
def g138 : AH := sR g137 38 2 50
def g139 : AH := nK g138 56 14 6 1371
def g140 : AH := sI g139 56 0 0
def g141 : AH := nK g140 57 1 5 1376
def g142 : AH := sR g141 56 1 57
def g143 : AH := nK g142 58 1 5 1381
def g144 : AH := sR g143 56 2 58
def g145 : AH := nK g144 59 1 5 1386
def g146 : AH := sR g145 56 3 59
def g147 : AH := nK g146 60 1 6 1392
def g148 : AH := sR g147 56 4 60
def g149 : AH := nK g148 61 1 6 1398
def g150 : AH := sR g149 56 5 61
theorem i14_4 {d : Nat} {Q : Option Value → AH → Prop} (hd : 5 ≤ d) (k : Q none g150) : Calls d nX4_init [.ref 56] g139 62 1398 Q := by
  obtain ⟨e, rfl⟩ : ∃ e, d = e + 1 := ⟨d - 1, by omega⟩
  refine wX4_init (E1 := 62) (E2 := 1398) (by omega) (by decide +kernel) (by decide +kernel) 56 ?_
  refine ⟨by decide +kernel, ?_⟩
  refine ⟨by decide +kernel, lHg (g := g140) rfl ?_⟩
  refine ⟨by decide, by decide, by decide +kernel, by decide +kernel, lHg (g := g141) (nC_nK (by decide +kernel) (by decide +kernel)) ⟨by decide +kernel, lHg (g := g142) rfl ?_⟩⟩
  refine ⟨by decide, by decide, by decide +kernel, by decide +kernel, lHg (g := g143) (nC_nK (by decide +kernel) (by decide +kernel)) ⟨by decide +kernel, lHg (g := g144) rfl ?_⟩⟩
  refine ⟨by decide, by decide, by decide +kernel, by decide +kernel, lHg (g := g145) (nC_nK (by decide +kernel) (by decide +kernel)) ⟨by decide +kernel, lHg (g := g146) rfl ?_⟩⟩
  refine ⟨by decide, by decide, by decide +kernel, by decide +kernel, lHg (g := g147) (nC_nK (by decide +kernel) (by decide +kernel)) ⟨by decide +kernel, lHg (g := g148) rfl ?_⟩⟩
  refine ⟨by decide, by decide, by decide +kernel, by decide +kernel, lHg (g := g149) (nC_nK (by decide +kernel) (by decide +kernel)) ⟨by decide +kernel, lHg (g := g150) rfl ?_⟩⟩
  rw [rt_v]
  exact ⟨by decide +kernel, by decide +kernel, k⟩
def g151 : AH := sR g150 38 3 56
def g152 : AH := nK g151 62 1 3 1401
def g153 : AH := sR g152 38 4 62
def g154 : AH := nK g153 63 1 3 1404
def g155 : AH := sR g154 38 5 63
def g156 : AH := nQ g155 64 7 7 1460
def g157 : AH := sR g156 38 6 64
def g158 : AH := nQ g157 72 7 7 1516
def g159 : AH := sR g158 38 7 72
def g160 : AH := sI g159 38 8 (-1)
def g161 : AH := sR g160 38 9 0
def g162 : AH := sR g161 38 10 0
theorem i10_0 {d : Nat} {Q : Option Value → AH → Prop} (hd : 7 ≤ d) (k : Q none g162) : Calls d nX0_init [.ref 38] g101 80 1516 Q := by
  obtain ⟨e, rfl⟩ : ∃ e, d = e + 1 := ⟨d - 1, by omega⟩
  refine wX0_init (E1 := 80) (E2 := 1516) (by omega) (by decide +kernel) (by decide +kernel) 38 ?_
  refine ⟨by decide +kernel, ?_⟩
  refine ⟨by decide +kernel, by decide +kernel, lHg (g := g102) (nC_nK (by decide +kernel) (by decide +kernel)) ⟨by decide +kernel, 44, 1299, by decide +kernel, by decide +kernel, ?_⟩⟩
  refine i11_1 (by omega) (rV0 ⟨by decide +kernel, lHg (g := g112) rfl ?_⟩)
  refine ⟨by decide +kernel, by decide +kernel, lHg (g := g113) (nC_nK (by decide +kernel) (by decide +kernel)) ⟨by decide +kernel, 50, 1332, by decide +kernel, by decide +kernel, ?_⟩⟩
  refine i12_4 (by omega) (rV0 ⟨by decide +kernel, lHg (g := g125) rfl ?_⟩)
  refine ⟨by decide +kernel, by decide +kernel, lHg (g := g126) (nC_nK (by decide +kernel) (by decide +kernel)) ⟨by decide +kernel, 56, 1365, by decide +kernel, by decide +kernel, ?_⟩⟩
  refine i13_4 (by omega) (rV0 ⟨by decide +kernel, lHg (g := g138) rfl ?_⟩)
  refine ⟨by decide +kernel, by decide +kernel, lHg (g := g139) (nC_nK (by decide +kernel) (by decide +kernel)) ⟨by decide +kernel, 62, 1398, by decide +kernel, by decide +kernel, ?_⟩⟩
  refine i14_4 (by omega) (rV0 ⟨by decide +kernel, lHg (g := g151) rfl ?_⟩)
  refine ⟨by decide, by decide, by decide +kernel, by decide +kernel, lHg (g := g152) (nC_nK (by decide +kernel) (by decide +kernel)) ⟨by decide +kernel, lHg (g := g153) rfl ?_⟩⟩
  refine ⟨by decide, by decide, by decide +kernel, by decide +kernel, lHg (g := g154) (nC_nK (by decide +kernel) (by decide +kernel)) ⟨by decide +kernel, lHg (g := g155) rfl ?_⟩⟩
  refine ⟨by decide, by decide, by decide, by decide, by decide +kernel, by decide +kernel, lHg (g := g156) (nM_nQ (by decide +kernel) (by decide +kernel)) ⟨by decide +kernel, lHg (g := g157) rfl ?_⟩⟩
  refine ⟨by decide, by decide, by decide, by decide, by decide +kernel, by decide +kernel, lHg (g := g158) (nM_nQ (by decide +kernel) (by decide +kernel)) ⟨by decide +kernel, lHg (g := g159) rfl ?_⟩⟩
  refine ⟨by decide +kernel, lHg (g := g160) rfl ?_⟩
  refine ⟨by decide +kernel, lHg (g := g161) rfl ?_⟩
  refine ⟨by decide +kernel, lHg (g := g162) rfl ?_⟩
  rw [rt_v]
  exact ⟨by decide +kernel, by decide +kernel, k⟩
def g163 : AH := sR g162 1 8 38
def g164 : AH := nK g163 80 20 5 1521
def g165 : AH := nK g164 81 11 4 1525
def g166 : AH := nK g165 82 1 5 1530
def g167 : AH := sR g166 81 0 82
def g168 : AH := nK g167 83 1 5 1535
def g169 : AH := sR g168 81 1 83
def g170 : AH := nK g169 84 4 12 1547
def g171 : AH := sR g170 81 2 84
def g172 : AH := nK g171 85 4 60 1607
def g173 : AH := sR g172 81 3 85
def g174 : AH := flI 82 (-2) 5 0 g173
theorem i16_1 {d : Nat} {Q : Option Value → AH → Prop} (hd : 6 ≤ d) (k : Q none g174) : Calls d nX1_init [.ref 81] g165 86 1607 Q := by
  obtain ⟨e, rfl⟩ : ∃ e, d = e + 1 := ⟨d - 1, by omega⟩
  refine wX1_init (E1 := 86) (E2 := 1607) (by omega) (by decide +kernel) (by decide +kernel) 81 ?_
  refine ⟨by decide +kernel, ?_⟩
  refine ⟨by decide, by decide, by decide +kernel, by decide +kernel, lHg (g := g166) (nC_nK (by decide +kernel) (by decide +kernel)) ⟨by decide +kernel, lHg (g := g167) rfl ?_⟩⟩
  refine ⟨by decide, by decide, by decide +kernel, by decide +kernel, lHg (g := g168) (nC_nK (by decide +kernel) (by decide +kernel)) ⟨by decide +kernel, lHg (g := g169) rfl ?_⟩⟩
  refine ⟨by decide, by decide, by decide +kernel, by decide +kernel, lHg (g := g170) (nC_nK (by decide +kernel) (by decide +kernel)) ⟨by decide +kernel, lHg (g := g171) rfl ?_⟩⟩
  refine ⟨by decide, by decide, by decide +kernel, by decide +kernel, lHg (g := g172) (nC_nK (by decide +kernel) (by decide +kernel)) ⟨by decide +kernel, lHg (g := g173) rfl ?_⟩⟩
  refine ⟨by decide +kernel, ?_⟩
  rw [show hR g173 81 0 = 82 from by decide +kernel]
  refine ex_fill (by omega) 82 5 (-2) (by decide +kernel) (by decide) (rV0 ?_)
  change RtOf none 86 1607 _ none g174
  rw [rt_v]
  exact ⟨by decide +kernel, by decide +kernel, k⟩
def g175 : AH := sR g174 80 0 81
def g176 : AH := nK g175 86 14 6 1613
def g177 : AH := sI g176 86 0 0
def g178 : AH := nK g177 87 1 5 1618
def g179 : AH := sR g178 86 1 87
def g180 : AH := nK g179 88 1 5 1623
def g181 : AH := sR g180 86 2 88
def g182 : AH := nK g181 89 1 5 1628
def g183 : AH := sR g182 86 3 89
def g184 : AH := nK g183 90 1 6 1634
def g185 : AH := sR g184 86 4 90
def g186 : AH := nK g185 91 1 6 1640
def g187 : AH := sR g186 86 5 91
theorem i17_4 {d : Nat} {Q : Option Value → AH → Prop} (hd : 5 ≤ d) (k : Q none g187) : Calls d nX4_init [.ref 86] g176 92 1640 Q := by
  obtain ⟨e, rfl⟩ : ∃ e, d = e + 1 := ⟨d - 1, by omega⟩
  refine wX4_init (E1 := 92) (E2 := 1640) (by omega) (by decide +kernel) (by decide +kernel) 86 ?_
  refine ⟨by decide +kernel, ?_⟩
  refine ⟨by decide +kernel, lHg (g := g177) rfl ?_⟩
  refine ⟨by decide, by decide, by decide +kernel, by decide +kernel, lHg (g := g178) (nC_nK (by decide +kernel) (by decide +kernel)) ⟨by decide +kernel, lHg (g := g179) rfl ?_⟩⟩
  refine ⟨by decide, by decide, by decide +kernel, by decide +kernel, lHg (g := g180) (nC_nK (by decide +kernel) (by decide +kernel)) ⟨by decide +kernel, lHg (g := g181) rfl ?_⟩⟩
  refine ⟨by decide, by decide, by decide +kernel, by decide +kernel, lHg (g := g182) (nC_nK (by decide +kernel) (by decide +kernel)) ⟨by decide +kernel, lHg (g := g183) rfl ?_⟩⟩
  refine ⟨by decide, by decide, by decide +kernel, by decide +kernel, lHg (g := g184) (nC_nK (by decide +kernel) (by decide +kernel)) ⟨by decide +kernel, lHg (g := g185) rfl ?_⟩⟩
  refine ⟨by decide, by decide, by decide +kernel, by decide +kernel, lHg (g := g186) (nC_nK (by decide +kernel) (by decide +kernel)) ⟨by decide +kernel, lHg (g := g187) rfl ?_⟩⟩
  rw [rt_v]
  exact ⟨by decide +kernel, by decide +kernel, k⟩
def g188 : AH := sR g187 80 1 86
def g189 : AH := nQ g188 92 7 6 1689
def g190 : AH := sR g189 80 2 92
def g191 : AH := sI g190 80 3 0
def g192 : AH := sI g191 80 4 (-2)
theorem i15_10 {d : Nat} {Q : Option Value → AH → Prop} (hd : 7 ≤ d) (k : Q none g192) : Calls d nX10_init [.ref 80] g164 100 1689 Q := by
  obtain ⟨e, rfl⟩ : ∃ e, d = e + 1 := ⟨d - 1, by omega⟩
  refine wX10_init (E1 := 100) (E2 := 1689) (by omega) (by decide +kernel) (by decide +kernel) 80 ?_
  refine ⟨by decide +kernel, ?_⟩
  refine ⟨by decide +kernel, by decide +kernel, lHg (g := g165) (nC_nK (by decide +kernel) (by decide +kernel)) ⟨by decide +kernel, 86, 1607, by decide +kernel, by decide +kernel, ?_⟩⟩
  refine i16_1 (by omega) (rV0 ⟨by decide +kernel, lHg (g := g175) rfl ?_⟩)
  refine ⟨by decide +kernel, by decide +kernel, lHg (g := g176) (nC_nK (by decide +kernel) (by decide +kernel)) ⟨by decide +kernel, 92, 1640, by decide +kernel, by decide +kernel, ?_⟩⟩
  refine i17_4 (by omega) (rV0 ⟨by decide +kernel, lHg (g := g188) rfl ?_⟩)
  refine ⟨by decide, by decide, by decide, by decide, by decide +kernel, by decide +kernel, lHg (g := g189) (nM_nQ (by decide +kernel) (by decide +kernel)) ⟨by decide +kernel, lHg (g := g190) rfl ?_⟩⟩
  refine ⟨by decide +kernel, lHg (g := g191) rfl ?_⟩
  refine ⟨by decide +kernel, lHg (g := g192) rfl ?_⟩
  rw [rt_v]
  exact ⟨by decide +kernel, by decide +kernel, k⟩
def g193 : AH := sR g192 1 9 80
def g194 : AH := nK g193 100 15 1 1690
def g195 : AH := nK g194 101 1 32 1722
def g196 : AH := sR g195 100 0 101
theorem i18_5 {d : Nat} {Q : Option Value → AH → Prop} (hd : 5 ≤ d) (k : Q none g196) : Calls d nX5_init [.ref 100] g194 102 1722 Q := by
  obtain ⟨e, rfl⟩ : ∃ e, d = e + 1 := ⟨d - 1, by omega⟩
  refine wX5_init (E1 := 102) (E2 := 1722) (by omega) (by decide +kernel) (by decide +kernel) 100 ?_
  refine ⟨by decide +kernel, ?_⟩
  refine ⟨by decide, by decide, by decide +kernel, by decide +kernel, lHg (g := g195) (nC_nK (by decide +kernel) (by decide +kernel)) ⟨by decide +kernel, lHg (g := g196) rfl ?_⟩⟩
  rw [rt_v]
  exact ⟨by decide +kernel, by decide +kernel, k⟩
def g197 : AH := sR g196 1 10 100
theorem i1_11 {d : Nat} {Q : Option Value → AH → Prop} (hd : 8 ≤ d) (k : Q none g197) : Calls d nX11_init [.ref 1] g1 102 1722 Q := by
  obtain ⟨e, rfl⟩ : ∃ e, d = e + 1 := ⟨d - 1, by omega⟩
  refine wX11_init (E1 := 102) (E2 := 1722) (by omega) (by decide +kernel) (by decide +kernel) 1 ?_
  refine ⟨by decide +kernel, ?_⟩
  refine ⟨by decide +kernel, by decide +kernel, lHg (g := g2) (nC_nK (by decide +kernel) (by decide +kernel)) ⟨by decide +kernel, 8, 889, by decide +kernel, by decide +kernel, ?_⟩⟩
  refine i2_7 (by omega) (rV0 ⟨by decide +kernel, lHg (g := g26) rfl ?_⟩)
  refine ⟨by decide +kernel, by decide +kernel, by decide +kernel, lHg (g := g27) (by rw [show hR g26 (hR g26 1 0) 0 = 3 from by decide +kernel]; rfl) ?_⟩
  refine ⟨by decide, by decide, by decide +kernel, by decide +kernel, lHg (g := g28) (nC_nK (by decide +kernel) (by decide +kernel)) ⟨by decide +kernel, lHg (g := g29) rfl ?_⟩⟩
  refine ⟨by decide +kernel, lHg (g := g30) rfl ?_⟩
  refine ⟨by decide +kernel, by decide +kernel, lHg (g := g31) (nC_nK (by decide +kernel) (by decide +kernel)) ⟨by decide +kernel, 20, 988, by decide +kernel, by decide +kernel, ?_⟩⟩
  refine i4_9 (by omega) (rV0 ⟨by decide +kernel, lHg (g := g58) rfl ?_⟩)
  refine ⟨by decide, by decide, by decide +kernel, by decide +kernel, lHg (g := g59) (nC_nK (by decide +kernel) (by decide +kernel)) ⟨by decide +kernel, lHg (g := g60) rfl ?_⟩⟩
  refine ⟨by decide +kernel, by decide +kernel, lHg (g := g61) (nC_nK (by decide +kernel) (by decide +kernel)) ⟨by decide +kernel, 26, 1078, by decide +kernel, by decide +kernel, ?_⟩⟩
  refine i6_1 (by omega) (rV0 ⟨by decide +kernel, lHg (g := g71) rfl ?_⟩)
  refine ⟨by decide +kernel, by decide +kernel, lHg (g := g72) (nC_nK (by decide +kernel) (by decide +kernel)) ⟨by decide +kernel, 38, 1202, by decide +kernel, by decide +kernel, ?_⟩⟩
  refine i7_2 (by omega) (rV0 ⟨by decide +kernel, lHg (g := g100) rfl ?_⟩)
  refine ⟨by decide +kernel, by decide +kernel, lHg (g := g101) (nC_nK (by decide +kernel) (by decide +kernel)) ⟨by decide +kernel, 80, 1516, by decide +kernel, by decide +kernel, ?_⟩⟩
  refine i10_0 (by omega) (rV0 ⟨by decide +kernel, lHg (g := g163) rfl ?_⟩)
  refine ⟨by decide +kernel, by decide +kernel, lHg (g := g164) (nC_nK (by decide +kernel) (by decide +kernel)) ⟨by decide +kernel, 100, 1689, by decide +kernel, by decide +kernel, ?_⟩⟩
  refine i15_10 (by omega) (rV0 ⟨by decide +kernel, lHg (g := g193) rfl ?_⟩)
  refine ⟨by decide +kernel, by decide +kernel, lHg (g := g194) (nC_nK (by decide +kernel) (by decide +kernel)) ⟨by decide +kernel, 102, 1722, by decide +kernel, by decide +kernel, ?_⟩⟩
  refine i18_5 (by omega) (rV0 ⟨by decide +kernel, lHg (g := g197) rfl ?_⟩)
  rw [rt_v]
  exact ⟨by decide +kernel, by decide +kernel, k⟩
def g198 : AH := nK g197 102 22 59 1781
def g199 : AH := nK g198 103 1 7 1788
def g200 : AH := sI g199 103 0 0
def g201 : AH := sI g200 103 1 0
def g202 : AH := sI g201 103 2 0
def g203 : AH := sI g202 103 3 0
def g204 : AH := sI g203 103 4 0
def g205 : AH := sI g204 103 5 0
def g206 : AH := sI g205 103 6 (-1)
def g207 : AH := sR g206 102 1 103
def g208 : AH := nK g207 104 1 5 1793
def g209 : AH := sR g208 102 2 104
def g210 : AH := nK g209 105 1 5 1798
def g211 : AH := sR g210 102 3 105
def g212 : AH := nK g211 106 1 5 1803
def g213 : AH := sR g212 102 4 106
def g214 : AH := nK g213 107 1 6 1809
def g215 : AH := sR g214 102 5 107
def g216 : AH := nK g215 108 1 6 1815
def g217 : AH := sR g216 102 6 108
def g218 : AH := nK g217 109 1 6 1821
def g219 : AH := sR g218 102 7 109
def g220 : AH := nK g219 110 1 6 1827
def g221 : AH := sR g220 102 8 110
def g222 : AH := nK g221 111 1 10 1837
def g223 : AH := sR g222 102 9 111
def g224 : AH := nK g223 112 1 10 1847
def g225 : AH := sR g224 102 10 112
def g226 : AH := nK g225 113 1 10 1857
def g227 : AH := sR g226 102 11 113
def g228 : AH := nK g227 114 1 5 1862
def g229 : AH := sR g228 102 12 114
def g230 : AH := nK g229 115 1 5 1867
def g231 : AH := sR g230 102 13 115
def g232 : AH := nK g231 116 1 6 1873
def g233 : AH := sR g232 102 14 116
def g234 : AH := nK g233 117 1 3 1876
def g235 : AH := sR g234 102 15 117
def g236 : AH := nK g235 118 1 5 1881
def g237 : AH := sR g236 102 16 118
def g238 : AH := nK g237 119 1 5 1886
def g239 : AH := sR g238 102 17 119
def g240 : AH := nK g239 120 1 6 1892
def g241 : AH := sR g240 102 18 120
def g242 : AH := nK g241 121 1 6 1898
def g243 : AH := sR g242 102 19 121
def g244 : AH := nK g243 122 1 6 1904
def g245 : AH := sR g244 102 20 122
def g246 : AH := sI g245 102 30 12
def g247 : AH := nK g246 123 2 400 2304
def g248 : AH := sR g247 102 31 123
def g249 : AH := nK g248 124 1 1800 4104
def g250 : AH := sR g249 102 32 124
def g251 : AH := nK g250 125 1 1800 5904
def g252 : AH := sR g251 102 33 125
def g253 : AH := nK g252 126 1 6 5910
def g254 : AH := sR g253 102 34 126
def g255 : AH := nK g254 127 1 72 5982
def g256 : AH := sR g255 102 35 127
def g257 : AH := nK g256 128 1 72 6054
def g258 : AH := sR g257 102 36 128
def g259 : AH := nK g258 129 1 72 6126
def g260 : AH := sR g259 102 37 129
def g261 : AH := nK g260 130 1 402 6528
def g262 : AH := sR g261 102 38 130
def g263 : AH := nK g262 131 4 12 6540
def g264 : AH := sR g263 102 39 131
def g265 : AH := nK g264 132 4 300 6840
def g266 : AH := sR g265 102 40 132
def g267 : AH := nK g266 133 1 5 6845
def g268 : AH := sR g267 102 41 133
def g269 : AH := nK g268 134 1 5 6850
def g270 : AH := sI g269 134 0 (-5)
def g271 : AH := sI g270 134 1 (-5)
def g272 : AH := sI g271 134 2 (-5)
def g273 : AH := sI g272 134 3 (-5)
def g274 : AH := sI g273 134 4 (-5)
def g275 : AH := sR g274 102 42 134
def g276 : AH := nK g275 135 1 560 7410
def g277 : AH := sR g276 102 43 135
def g278 : AH := nK g277 136 1 1 7411
def g279 : AH := sR g278 102 44 136
def g280 : AH := nK g279 137 1 3 7414
def g281 : AH := sR g280 102 48 137
def g282 : AH := nK g281 138 1 3 7417
def g283 : AH := sR g282 102 49 138
def g284 : AH := nK g283 139 1 32 7449
def g285 : AH := sR g284 102 50 139
def g286 : AH := nK g285 140 1 49 7498
def g287 : AH := sR g286 102 51 140
def g288 : AH := nK g287 141 1 49 7547
def g289 : AH := sR g288 102 52 141
def g290 : AH := nK g289 142 1 366 7913
def g291 : AH := sR g290 102 53 142
def g292 : AH := nK g291 143 1 42 7955
def g293 : AH := sR g292 102 54 143
def g294 : AH := nK g293 144 1 3500 11455
def g295 : AH := sR g294 102 55 144
def g296 : AH := nK g295 145 3 4 11459
def g297 : AH := sR g296 102 56 145
theorem i19_12 {d : Nat} {Q : Option Value → AH → Prop} (hd : 5 ≤ d) (k : Q none g297) : Calls d nX12_init [.ref 102] g198 146 11459 Q := by
  obtain ⟨e, rfl⟩ : ∃ e, d = e + 1 := ⟨d - 1, by omega⟩
  refine wX12_init (E1 := 146) (E2 := 11459) (by omega) (by decide +kernel) (by decide +kernel) 102 ?_
  refine ⟨by decide +kernel, ?_⟩
  refine ⟨by decide, by decide, by decide +kernel, by decide +kernel, lHg (g := g199) (nC_nK (by decide +kernel) (by decide +kernel)) ?_⟩
  refine ⟨by decide +kernel, by unfold vp_in; decide +kernel, lHg (g := g200) rfl ?_⟩
  refine ⟨by decide +kernel, by unfold vp_in; decide +kernel, lHg (g := g201) rfl ?_⟩
  refine ⟨by decide +kernel, by unfold vp_in; decide +kernel, lHg (g := g202) rfl ?_⟩
  refine ⟨by decide +kernel, by unfold vp_in; decide +kernel, lHg (g := g203) rfl ?_⟩
  refine ⟨by decide +kernel, by unfold vp_in; decide +kernel, lHg (g := g204) rfl ?_⟩
  refine ⟨by decide +kernel, by unfold vp_in; decide +kernel, lHg (g := g205) rfl ?_⟩
  refine ⟨by decide +kernel, by unfold vp_in; decide +kernel, lHg (g := g206) rfl ?_⟩
  refine ⟨by decide +kernel, lHg (g := g207) rfl ?_⟩
  refine ⟨by decide, by decide, by decide +kernel, by decide +kernel, lHg (g := g208) (nC_nK (by decide +kernel) (by decide +kernel)) ⟨by decide +kernel, lHg (g := g209) rfl ?_⟩⟩
  refine ⟨by decide, by decide, by decide +kernel, by decide +kernel, lHg (g := g210) (nC_nK (by decide +kernel) (by decide +kernel)) ⟨by decide +kernel, lHg (g := g211) rfl ?_⟩⟩
  refine ⟨by decide, by decide, by decide +kernel, by decide +kernel, lHg (g := g212) (nC_nK (by decide +kernel) (by decide +kernel)) ⟨by decide +kernel, lHg (g := g213) rfl ?_⟩⟩
  refine ⟨by decide, by decide, by decide +kernel, by decide +kernel, lHg (g := g214) (nC_nK (by decide +kernel) (by decide +kernel)) ⟨by decide +kernel, lHg (g := g215) rfl ?_⟩⟩
  refine ⟨by decide, by decide, by decide +kernel, by decide +kernel, lHg (g := g216) (nC_nK (by decide +kernel) (by decide +kernel)) ⟨by decide +kernel, lHg (g := g217) rfl ?_⟩⟩
  refine ⟨by decide, by decide, by decide +kernel, by decide +kernel, lHg (g := g218) (nC_nK (by decide +kernel) (by decide +kernel)) ⟨by decide +kernel, lHg (g := g219) rfl ?_⟩⟩
  refine ⟨by decide, by decide, by decide +kernel, by decide +kernel, lHg (g := g220) (nC_nK (by decide +kernel) (by decide +kernel)) ⟨by decide +kernel, lHg (g := g221) rfl ?_⟩⟩
  refine ⟨by decide, by decide, by decide +kernel, by decide +kernel, lHg (g := g222) (nC_nK (by decide +kernel) (by decide +kernel)) ⟨by decide +kernel, lHg (g := g223) rfl ?_⟩⟩
  refine ⟨by decide, by decide, by decide +kernel, by decide +kernel, lHg (g := g224) (nC_nK (by decide +kernel) (by decide +kernel)) ⟨by decide +kernel, lHg (g := g225) rfl ?_⟩⟩
  refine ⟨by decide, by decide, by decide +kernel, by decide +kernel, lHg (g := g226) (nC_nK (by decide +kernel) (by decide +kernel)) ⟨by decide +kernel, lHg (g := g227) rfl ?_⟩⟩
  refine ⟨by decide, by decide, by decide +kernel, by decide +kernel, lHg (g := g228) (nC_nK (by decide +kernel) (by decide +kernel)) ⟨by decide +kernel, lHg (g := g229) rfl ?_⟩⟩
  refine ⟨by decide, by decide, by decide +kernel, by decide +kernel, lHg (g := g230) (nC_nK (by decide +kernel) (by decide +kernel)) ⟨by decide +kernel, lHg (g := g231) rfl ?_⟩⟩
  refine ⟨by decide, by decide, by decide +kernel, by decide +kernel, lHg (g := g232) (nC_nK (by decide +kernel) (by decide +kernel)) ⟨by decide +kernel, lHg (g := g233) rfl ?_⟩⟩
  refine ⟨by decide, by decide, by decide +kernel, by decide +kernel, lHg (g := g234) (nC_nK (by decide +kernel) (by decide +kernel)) ⟨by decide +kernel, lHg (g := g235) rfl ?_⟩⟩
  refine ⟨by decide, by decide, by decide +kernel, by decide +kernel, lHg (g := g236) (nC_nK (by decide +kernel) (by decide +kernel)) ⟨by decide +kernel, lHg (g := g237) rfl ?_⟩⟩
  refine ⟨by decide, by decide, by decide +kernel, by decide +kernel, lHg (g := g238) (nC_nK (by decide +kernel) (by decide +kernel)) ⟨by decide +kernel, lHg (g := g239) rfl ?_⟩⟩
  refine ⟨by decide, by decide, by decide +kernel, by decide +kernel, lHg (g := g240) (nC_nK (by decide +kernel) (by decide +kernel)) ⟨by decide +kernel, lHg (g := g241) rfl ?_⟩⟩
  refine ⟨by decide, by decide, by decide +kernel, by decide +kernel, lHg (g := g242) (nC_nK (by decide +kernel) (by decide +kernel)) ⟨by decide +kernel, lHg (g := g243) rfl ?_⟩⟩
  refine ⟨by decide, by decide, by decide +kernel, by decide +kernel, lHg (g := g244) (nC_nK (by decide +kernel) (by decide +kernel)) ⟨by decide +kernel, lHg (g := g245) rfl ?_⟩⟩
  refine ⟨by decide +kernel, lHg (g := g246) rfl ?_⟩
  refine ⟨by decide, by decide, by decide +kernel, by decide +kernel, lHg (g := g247) (nC_nK (by decide +kernel) (by decide +kernel)) ⟨by decide +kernel, lHg (g := g248) rfl ?_⟩⟩
  refine ⟨by decide, by decide, by decide +kernel, by decide +kernel, lHg (g := g249) (nC_nK (by decide +kernel) (by decide +kernel)) ⟨by decide +kernel, lHg (g := g250) rfl ?_⟩⟩
  refine ⟨by decide, by decide, by decide +kernel, by decide +kernel, lHg (g := g251) (nC_nK (by decide +kernel) (by decide +kernel)) ⟨by decide +kernel, lHg (g := g252) rfl ?_⟩⟩
  refine ⟨by decide, by decide, by decide +kernel, by decide +kernel, lHg (g := g253) (nC_nK (by decide +kernel) (by decide +kernel)) ⟨by decide +kernel, lHg (g := g254) rfl ?_⟩⟩
  refine ⟨by decide, by decide, by decide +kernel, by decide +kernel, lHg (g := g255) (nC_nK (by decide +kernel) (by decide +kernel)) ⟨by decide +kernel, lHg (g := g256) rfl ?_⟩⟩
  refine ⟨by decide, by decide, by decide +kernel, by decide +kernel, lHg (g := g257) (nC_nK (by decide +kernel) (by decide +kernel)) ⟨by decide +kernel, lHg (g := g258) rfl ?_⟩⟩
  refine ⟨by decide, by decide, by decide +kernel, by decide +kernel, lHg (g := g259) (nC_nK (by decide +kernel) (by decide +kernel)) ⟨by decide +kernel, lHg (g := g260) rfl ?_⟩⟩
  refine ⟨by decide, by decide, by decide +kernel, by decide +kernel, lHg (g := g261) (nC_nK (by decide +kernel) (by decide +kernel)) ⟨by decide +kernel, lHg (g := g262) rfl ?_⟩⟩
  refine ⟨by decide, by decide, by decide +kernel, by decide +kernel, lHg (g := g263) (nC_nK (by decide +kernel) (by decide +kernel)) ⟨by decide +kernel, lHg (g := g264) rfl ?_⟩⟩
  refine ⟨by decide, by decide, by decide +kernel, by decide +kernel, lHg (g := g265) (nC_nK (by decide +kernel) (by decide +kernel)) ⟨by decide +kernel, lHg (g := g266) rfl ?_⟩⟩
  refine ⟨by decide, by decide, by decide +kernel, by decide +kernel, lHg (g := g267) (nC_nK (by decide +kernel) (by decide +kernel)) ⟨by decide +kernel, lHg (g := g268) rfl ?_⟩⟩
  refine ⟨by decide, by decide, by decide +kernel, by decide +kernel, lHg (g := g269) (nC_nK (by decide +kernel) (by decide +kernel)) ?_⟩
  refine ⟨by decide +kernel, by unfold vp_in; decide +kernel, lHg (g := g270) rfl ?_⟩
  refine ⟨by decide +kernel, by unfold vp_in; decide +kernel, lHg (g := g271) rfl ?_⟩
  refine ⟨by decide +kernel, by unfold vp_in; decide +kernel, lHg (g := g272) rfl ?_⟩
  refine ⟨by decide +kernel, by unfold vp_in; decide +kernel, lHg (g := g273) rfl ?_⟩
  refine ⟨by decide +kernel, by unfold vp_in; decide +kernel, lHg (g := g274) rfl ?_⟩
  refine ⟨by decide +kernel, lHg (g := g275) rfl ?_⟩
  refine ⟨by decide, by decide, by decide +kernel, by decide +kernel, lHg (g := g276) (nC_nK (by decide +kernel) (by decide +kernel)) ⟨by decide +kernel, lHg (g := g277) rfl ?_⟩⟩
  refine ⟨by decide, by decide, by decide +kernel, by decide +kernel, lHg (g := g278) (nC_nK (by decide +kernel) (by decide +kernel)) ⟨by decide +kernel, lHg (g := g279) rfl ?_⟩⟩
  refine ⟨by decide, by decide, by decide +kernel, by decide +kernel, lHg (g := g280) (nC_nK (by decide +kernel) (by decide +kernel)) ⟨by decide +kernel, lHg (g := g281) rfl ?_⟩⟩
  refine ⟨by decide, by decide, by decide +kernel, by decide +kernel, lHg (g := g282) (nC_nK (by decide +kernel) (by decide +kernel)) ⟨by decide +kernel, lHg (g := g283) rfl ?_⟩⟩
  refine ⟨by decide, by decide, by decide +kernel, by decide +kernel, lHg (g := g284) (nC_nK (by decide +kernel) (by decide +kernel)) ⟨by decide +kernel, lHg (g := g285) rfl ?_⟩⟩
  refine ⟨by decide, by decide, by decide +kernel, by decide +kernel, lHg (g := g286) (nC_nK (by decide +kernel) (by decide +kernel)) ⟨by decide +kernel, lHg (g := g287) rfl ?_⟩⟩
  refine ⟨by decide, by decide, by decide +kernel, by decide +kernel, lHg (g := g288) (nC_nK (by decide +kernel) (by decide +kernel)) ⟨by decide +kernel, lHg (g := g289) rfl ?_⟩⟩
  refine ⟨by decide, by decide, by decide +kernel, by decide +kernel, lHg (g := g290) (nC_nK (by decide +kernel) (by decide +kernel)) ⟨by decide +kernel, lHg (g := g291) rfl ?_⟩⟩
  refine ⟨by decide, by decide, by decide +kernel, by decide +kernel, lHg (g := g292) (nC_nK (by decide +kernel) (by decide +kernel)) ⟨by decide +kernel, lHg (g := g293) rfl ?_⟩⟩
  refine ⟨by decide, by decide, by decide +kernel, by decide +kernel, lHg (g := g294) (nC_nK (by decide +kernel) (by decide +kernel)) ⟨by decide +kernel, lHg (g := g295) rfl ?_⟩⟩
  refine ⟨by decide, by decide, by decide +kernel, by decide +kernel, lHg (g := g296) (nC_nK (by decide +kernel) (by decide +kernel)) ⟨by decide +kernel, lHg (g := g297) rfl ?_⟩⟩
  rw [rt_v]
  exact ⟨by decide +kernel, by decide +kernel, k⟩
abbrev gZ : AH := g297
