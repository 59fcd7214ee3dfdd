/-! the class's whole state -/
theorem RulAt.frg {h h' : AH} {r : Nat} {cls : List (List (Nat × Nat) × List (Nat × Nat))} {S : Nat → Prop} (w : wfA h) (H : RulAt h r cls) (f : FrG h h' S) (hs : ∀ b, r ≤ b → b ≤ r + 2 → ¬ S b) : RulAt h' r cls := by
  obtain ⟨n1, h1, h2, h3, h4, h5, h6, h7, h8, h9⟩ := H
  have l0 := w r (by rw [h4]; decide)
  have l1 := w (r + 1) (by rw [h7]; exact Nat.one_ne_zero)
  have l2 := w (r + 2) (by rw [h8]; exact Nat.one_ne_zero)
  have g0 := f.2.2.1 r l0 (hs r (by omega) (by omega))
  have e1 : hI h' (r + 1) = hI h (r + 1) := funext (f.2.2.1 (r + 1) l1 (hs _ (by omega) (by omega))).2.1
  have e2 : hI h' (r + 2) = hI h (r + 2) := funext (f.2.2.1 (r + 2) l2 (hs _ (by omega) (by omega))).2.1
  refine ⟨n1, h1, h2, by rw [e1, e2]; exact h3, by rw [f.2.1 r l0]; exact h4, by rw [g0.1]; exact h5, by rw [g0.1]; exact h6, by rw [f.2.1 _ l1]; exact h7, by rw [f.2.1 _ l2]; exact h8, by rw [g0.2.1]; exact h9⟩
/-- what lies ready for questions -/
def SCR (h : AH) (x : Nat) : Prop := (CouAt h (x + 20) ∧ ∀ j, j < 5 → hI h (x + 21) j = -2) ∧ (hS h (x + 25) = (12, 5) ∧ hR h (x + 25) 0 = x + 26 ∧ hR h (x + 25) 1 = x + 31 ∧ CouAt h (x + 26) ∧ MomAt h (x + 31) ∧ ∀ j, j < 5 → hI h (x + 27) j = -2) ∧ ((hS h (x + 37) = (10, 11) ∧ hR h (x + 37) 0 = x + 38 ∧ hR h (x + 37) 1 = x + 43 ∧ hR h (x + 37) 2 = x + 49 ∧ hR h (x + 37) 3 = x + 55 ∧ hR h (x + 37) 4 = x + 61 ∧ hR h (x + 37) 5 = x + 62 ∧ hR h (x + 37) 6 = x + 63 ∧ hR h (x + 37) 7 = x + 71) ∧ (CouAt h (x + 38) ∧ MomAt h (x + 43) ∧ MomAt h (x + 49) ∧ MomAt h (x + 55) ∧ hS h (x + 61) = (1, 3) ∧ hS h (x + 62) = (1, 3) ∧ hS h (x + 63) = (8, 7) ∧ hS h (x + 71) = (8, 7) ∧ (∀ i, i < 7 → hR h (x + 63) i = x + 64 + i ∧ hS h (x + 64 + i) = (1, 7)) ∧ (∀ i, i < 7 → hR h (x + 71) i = x + 72 + i ∧ hS h (x + 72 + i) = (1, 7))) ∧ ∀ j, j < 5 → hI h (x + 39) j = -2) ∧ ((hS h (x + 79) = (20, 5) ∧ hR h (x + 79) 0 = x + 80 ∧ hR h (x + 79) 1 = x + 85 ∧ hR h (x + 79) 2 = x + 91) ∧ CouAt h (x + 80) ∧ MomAt h (x + 85) ∧ hS h (x + 91) = (8, 7) ∧ (∀ i, i < 7 → hR h (x + 91) i = x + 92 + i ∧ hS h (x + 92 + i) = (1, 6)) ∧ ∀ j, j < 5 → hI h (x + 81) j = -2) ∧ (hS h (x + 99) = (15, 1) ∧ hR h (x + 99) 0 = x + 100 ∧ hS h (x + 100) = (1, 32) ∧ hI h (x + 100) 0 = 0)
/-- a town's dynamic cells lie above -/
def dyn (h : AH) (x t : Nat) (T : TW) : Prop := (hR h t 0 ≠ 0 → x + 145 ≤ hR h t 0 ∧ 0 < T.2.2.1 0 0) ∧ ∀ i, i < 20 → hR h (t + 7) i ≠ 0 → x + 145 ≤ hR h (t + 7) i
def imC (h : AH) (x s : Nat) (o : Option TW) : Prop := match o with
  | none => hR h (x + 19) s = 0
  | some T => x + 145 ≤ hR h (x + 19) s ∧ TownIs h (hR h (x + 19) s) T ∧ dyn h x (hR h (x + 19) s) T ∧ sepT h (x + 8) (hR h (x + 19) s) ∧ sepT h (hR h (x + 19) s) (x + 8)
/-- the reader of texts -/
def RDR (h : AH) (x : Nat) : Prop := hS h (x + 1) = (17, 11) ∧ hR h (x + 1) 0 = x + 2 ∧ hR h (x + 1) 1 = x + 4 ∧ hR h (x + 1) 2 = x + 5 ∧ hR h (x + 1) 3 = x + 6 ∧ hS h (x + 4) = (1, 400) ∧ hS h (x + 5) = (1, 35) ∧ hS h (x + 6) = (1, 25) ∧ hI h (x + 6) 0 = 0
def cHd (h : AH) (x : Nat) : Prop := (wfA h ∧ x + 145 ≤ hN h ∧ 1 ≤ x) ∧ (hS h x = (21, 11) ∧ hR h x 0 = x + 1 ∧ hR h x 1 = x + 2 ∧ hR h x 2 = x + 7 ∧ hR h x 4 = x + 8 ∧ hR h x 5 = x + 19 ∧ hR h x 6 = x + 20 ∧ hR h x 7 = x + 25 ∧ hR h x 8 = x + 37 ∧ hR h x 9 = x + 79 ∧ hR h x 10 = x + 99)
def cRl (h : AH) (x : Nat) (cls : List (List (List (Nat × Nat) × List (Nat × Nat)))) : Prop := hI h x 3 = nI cls.length ∧ RlsAt h (x + 7) cls ∧ (∀ (i : Nat) (c : List (List (Nat × Nat) × List (Nat × Nat))), cls[i]? = some c → x + 145 ≤ hR h (x + 7) i)
def cTx (h : AH) (x : Nat) (tp : List Int32) : Prop := hR h (x + 2) 0 = x + 3 ∧ hS h (x + 2) = (18, 7) ∧ hI h (x + 2) 1 = nI tp.length ∧ hS h (x + 3) = (2, 400) ∧ tp.length ≤ 400 ∧ (∀ (i : Nat) (b : Int32), tp[i]? = some b → hI h (x + 3) i = b)
def cIm (h : AH) (x : Nat) (im : Nat → Option TW) : Prop := hS h (x + 19) = (6, 4) ∧ (∀ s, s < 4 → imC h x s (im s)) ∧ (∀ s s', s < 4 → s' < 4 → hR h (x + 19) s ≠ 0 → hR h (x + 19) s' ≠ 0 → s ≠ s' → hR h (x + 19) s ≠ hR h (x + 19) s' ∧ sepT h (hR h (x + 19) s) (hR h (x + 19) s'))
/-- which kept moments a town has room for -/
def nlT (h : AH) (t p : Nat) : Prop := p ≤ 20 ∧ ∀ i, i < 20 → (hR h (t + 7) i ≠ 0 ↔ i < p)
def PZ (h : AH) (x : Nat) (im : Nat → Option TW) (pz : Nat → Nat) : Prop := nlT h (x + 8) (pz 0) ∧ ∀ s T, s < 4 → im s = some T → nlT h (hR h (x + 19) s) (pz (s + 1))
/-- the reference's cells are as in g -/
def EqM (h g : AH) (x : Nat) : Prop := ∀ c, x + 101 ≤ c → c ≤ x + 144 → hS h c = hS g c ∧ (∀ j, hR h c j = hR g c j) ∧ (∀ j, hI h c j = hI g c j) ∧ (∀ j, hL h c j = hL g c j)
theorem EqM.refl (h : AH) (x : Nat) : EqM h h x := fun _ _ _ => ⟨rfl, fun _ => rfl, fun _ => rfl, fun _ => rfl⟩
theorem EqM.frg {h h' g : AH} {x : Nat} {S : Nat → Prop} (H : EqM h g x) (hx : x + 145 ≤ hN h) (f : FrG h h' S) (hs : ∀ c, x + 101 ≤ c → c ≤ x + 144 → ¬ S c) : EqM h' g x := fun c h1 h2 => by
  have e := f.2.2.1 c (by omega) (hs c h1 h2)
  have q := H c h1 h2
  exact ⟨(f.2.1 c (by omega)).trans q.1, fun j => (e.1 j).trans (q.2.1 j), fun j => (e.2.1 j).trans (q.2.2.1 j), fun j => (e.2.2 j).trans (q.2.2.2 j)⟩
abbrev PZT : Type := (Nat → Nat) × AH
def CW (pz : PZT) (h : AH) (x : Nat) (W : WS) : Prop := cHd h x ∧ (TownIs h (x + 8) W.1 ∧ dyn h x (x + 8) W.1) ∧ cRl h x W.2.1 ∧ cTx h x W.2.2.1 ∧ cIm h x W.2.2.2 ∧ SCR h x ∧ RDR h x ∧ PZ h x W.2.2.2 pz.1 ∧ EqM h pz.2 x
theorem dyn.frg {h h' : AH} {x t : Nat} {T : TW} {S : Nat → Prop} (H : dyn h x t T) (f : FrG h h' S) (l0 : t + 7 < hN h) (h0 : ¬ S t) (h7 : ¬ S (t + 7)) : dyn h' x t T := by
  have g0 := (f.2.2.1 t (by omega) h0).1
  have g7 := (f.2.2.1 (t + 7) l0 h7).1
  exact ⟨by rw [g0]; exact H.1, fun i hi => by rw [g7]; exact H.2 i hi⟩
theorem sepT.frg {h h' : AH} {t u : Nat} {S : Nat → Prop} (H : sepT h t u) (f : FrG h h' S) (l0 : t + 7 < hN h) (l1 : u + 7 < hN h) (h7 : ¬ S (t + 7)) (u7 : ¬ S (u + 7)) : sepT h' t u := by
  have g7 := (f.2.2.1 (t + 7) l0 h7).1
  have k7 := (f.2.2.1 (u + 7) l1 u7).1
  intro i hi
  rw [g7]
  intro z
  refine ⟨(H i hi z).1, fun j hj => ?_⟩
  rw [k7]
  exact (H i hi z).2 j hj
theorem TownIs.lt {h : AH} {t : Nat} {T : TW} (w : wfA h) (H : TownIs h t T) : t + 10 < hN h := by
  obtain ⟨nr, nw, A, fo, x, M, ps, ns⟩ := T
  exact w (t + 10) (by rw [H.1.2.2.2.2.2.2.2.2.2.1]; exact Nat.one_ne_zero)
theorem cHd.frg {h h' : AH} {x : Nat} {S : Nat → Prop} (H : cHd h x) (f : FrG h h' S) (h0 : ¬ S x) : cHd h' x := by
  obtain ⟨⟨w, hx, hx1⟩, ⟨s0, p⟩⟩ := H
  have e0 := (f.2.2.1 x (by omega) h0).1
  refine ⟨⟨f.2.2.2 w, Nat.le_trans hx f.1, hx1⟩, ⟨by rw [f.2.1 x (by omega)]; exact s0, ?_⟩⟩
  simp only [e0]
  exact p
theorem cRl.frg {h h' : AH} {x : Nat} {cls : List (List (List (Nat × Nat) × List (Nat × Nat)))} {S : Nat → Prop} (H : cRl h x cls) (w : wfA h) (hx : x + 145 ≤ hN h) (f : FrG h h' S) (h0 : ¬ S x) (h7 : ¬ S (x + 7)) (hd : ∀ (i : Nat) (c : List (List (Nat × Nat) × List (Nat × Nat))), cls[i]? = some c → ∀ b, hR h (x + 7) i ≤ b → b ≤ hR h (x + 7) i + 2 → ¬ S b) : cRl h' x cls := by
  obtain ⟨r1, ⟨r2, r3, r4⟩, r5⟩ := H
  have e0 := (f.2.2.1 x (by omega) h0).2.1
  have e7 := (f.2.2.1 (x + 7) (by omega) h7).1
  refine ⟨by rw [e0]; exact r1, ⟨by rw [f.2.1 _ (by omega)]; exact r2, r3, fun i c hc => ?_⟩, fun i c hc => by rw [e7]; exact r5 i c hc⟩
  rw [e7]
  exact ⟨(r4 i c hc).1, (r4 i c hc).2.frg w f (hd i c hc)⟩
theorem cTx.frg {h h' : AH} {x : Nat} {tp : List Int32} {S : Nat → Prop} (H : cTx h x tp) (hx : x + 145 ≤ hN h) (f : FrG h h' S) (h2 : ¬ S (x + 2)) (h3 : ¬ S (x + 3)) : cTx h' x tp := by
  obtain ⟨t1, t2, t3, t4, t5, t6⟩ := H
  have e2 := f.2.2.1 (x + 2) (by omega) h2
  have e3 := f.2.2.1 (x + 3) (by omega) h3
  exact ⟨by rw [e2.1]; exact t1, by rw [f.2.1 _ (by omega)]; exact t2, by rw [e2.2.1]; exact t3, by rw [f.2.1 _ (by omega)]; exact t4, t5, fun i b hb => by rw [e3.2.1]; exact t6 i b hb⟩
theorem RDR.frg {h h' : AH} {x : Nat} {S : Nat → Prop} (H : RDR h x) (hx : x + 145 ≤ hN h) (f : FrG h h' S) (h1 : ¬ S (x + 1)) (h6 : ¬ S (x + 6)) : RDR h' x := by
  obtain ⟨q1, q2, q3, q4, q5, q6, q7, q8, q9⟩ := H
  have e1 := (f.2.2.1 (x + 1) (by omega) h1).1
  exact ⟨by rw [f.2.1 _ (by omega)]; exact q1, by rw [e1]; exact q2, by rw [e1]; exact q3, by rw [e1]; exact q4, by rw [e1]; exact q5, by rw [f.2.1 _ (by omega)]; exact q6, by rw [f.2.1 _ (by omega)]; exact q7, by rw [f.2.1 _ (by omega)]; exact q8, by rw [(f.2.2.1 (x + 6) (by omega) h6).2.1]; exact q9⟩
theorem TownIs.frd {h h' : AH} {x t : Nat} {T : TW} {S : Nat → Prop} (w : wfA h) (HT : TownIs h t T) (HD : dyn h x t T) (f : FrG h h' S) (nt : ∀ b, t ≤ b → b ≤ t + 10 → ¬ S b) (gd : ∀ c, x + 145 ≤ c → ¬ S c) : TownIs h' t T ∧ dyn h' x t T := by
  have hl := HT.lt w
  exact ⟨HT.frg w f nt (fun z b h1 _ => gd b (by have := (HD.1 z).1; omega)) (fun i hi z b h1 _ => gd b (by have := HD.2 i hi z; omega)), HD.frg f (by omega) (nt t (by omega) (by omega)) (nt (t + 7) (by omega) (by omega))⟩
theorem imC.frg {h h' : AH} {x s : Nat} {o : Option TW} {S : Nat → Prop} (H : imC h x s o) (w : wfA h) (hx : x + 145 ≤ hN h) (f : FrG h h' S) (h15 : ¬ S (x + 15)) (h19 : ¬ S (x + 19)) (gd : ∀ c, x + 145 ≤ c → ¬ S c) : imC h' x s o := by
  have e19 := (f.2.2.1 (x + 19) (by omega) h19).1
  cases o with
  | none => exact (e19 s).trans H
  | some T =>
    obtain ⟨a1, a2, a3, a4, a5⟩ := H
    have hl := a2.lt w
    have := a2.frd w a3 f (fun b h1 _ => gd b (by omega)) gd
    show x + 145 ≤ hR h' (x + 19) s ∧ TownIs h' (hR h' (x + 19) s) T ∧ dyn h' x (hR h' (x + 19) s) T ∧ sepT h' (x + 8) (hR h' (x + 19) s) ∧ sepT h' (hR h' (x + 19) s) (x + 8)
    rw [e19]
    exact ⟨a1, this.1, this.2, a4.frg f (by omega) (by omega) h15 (gd _ (by omega)), a5.frg f (by omega) (by omega) (gd _ (by omega)) h15⟩
theorem imC.lt {h : AH} {x s : Nat} {o : Option TW} (H : imC h x s o) (w : wfA h) (z : hR h (x + 19) s ≠ 0) : x + 145 ≤ hR h (x + 19) s ∧ hR h (x + 19) s + 7 < hN h := by
  cases o with
  | none => exact absurd H z
  | some T =>
    have := H.2.1.lt w
    exact ⟨H.1, by omega⟩
theorem cIm.frg {h h' : AH} {x : Nat} {im : Nat → Option TW} {S : Nat → Prop} (H : cIm h x im) (w : wfA h) (hx : x + 145 ≤ hN h) (f : FrG h h' S) (h15 : ¬ S (x + 15)) (h19 : ¬ S (x + 19)) (gd : ∀ c, x + 145 ≤ c → ¬ S c) : cIm h' x im := by
  obtain ⟨i1, i2, i3⟩ := H
  have e19 := (f.2.2.1 (x + 19) (by omega) h19).1
  refine ⟨by rw [f.2.1 _ (by omega)]; exact i1, fun s hs => (i2 s hs).frg w hx f h15 h19 gd, fun s s' h1 h2 => ?_⟩
  rw [e19, e19]
  intro z1 z2 hne
  have b1 := (i2 s h1).lt w z1
  have b2 := (i2 s' h2).lt w z2
  have := i3 s s' h1 h2 z1 z2 hne
  exact ⟨this.1, this.2.frg f b1.2 b2.2 (gd _ (by omega)) (gd _ (by omega))⟩
theorem nlT.frg {h h' : AH} {t p : Nat} {S : Nat → Prop} (H : nlT h t p) (f : FrG h h' S) (l : t + 7 < hN h) (h7 : ¬ S (t + 7)) : nlT h' t p := ⟨H.1, fun i hi => by rw [(f.2.2.1 (t + 7) l h7).1]; exact H.2 i hi⟩
theorem PZ.frg {h h' : AH} {x : Nat} {im : Nat → Option TW} {pz : Nat → Nat} {S : Nat → Prop} (H : PZ h x im pz) (HI : cIm h x im) (w : wfA h) (hx : x + 145 ≤ hN h) (f : FrG h h' S) (h15 : ¬ S (x + 15)) (h19 : ¬ S (x + 19)) (gd : ∀ c, x + 145 ≤ c → ¬ S c) : PZ h' x im pz := by
  have e19 := (f.2.2.1 (x + 19) (by omega) h19).1
  refine ⟨H.1.frg f (by omega) h15, fun s T hs e => ?_⟩
  have a := HI.2.1 s hs
  rw [e] at a
  obtain ⟨a1, a2, -⟩ := a
  have hl := a2.lt w
  rw [e19]
  exact (H.2 s T hs e).frg f (by omega) (gd _ (by omega))
theorem CW.fra {pz : PZT} {h h' : AH} {x : Nat} {W : WS} {S : Nat → Prop} (H : CW pz h x W) (f : FrG h h' S) (hs : ∀ c, S c → x + 20 ≤ c ∧ c ≤ x + 144) (HS : SCR h' x) : CW (pz.1, h') h' x W := by
  obtain ⟨H1, ⟨H2, H3⟩, H4, H5, H6, -, H8, H9, -⟩ := H
  have w := H1.1.1
  have hx := H1.1.2.1
  have gd : ∀ c, x + 145 ≤ c → ¬ S c := fun c hc z => by have := hs c z; omega
  have gl : ∀ c, c < x + 20 → ¬ S c := fun c hc z => by have := hs c z; omega
  exact ⟨H1.frg f (gl x (by omega)), H2.frd w H3 f (fun b h1 h2 => gl b (by omega)) gd, H4.frg w hx f (gl x (by omega)) (gl _ (by omega)) (fun i c hc b h1 _ => gd b (by have := H4.2.2 i c hc; omega)), H5.frg hx f (gl _ (by omega)) (gl _ (by omega)), H6.frg w hx f (gl _ (by omega)) (gl _ (by omega)) gd, HS, H8.frg hx f (gl _ (by omega)) (gl _ (by omega)), H9.frg H6 w hx f (gl _ (by omega)) (gl _ (by omega)) gd, EqM.refl _ _⟩
theorem CW.frs {pz : PZT} {h h' : AH} {x : Nat} {W : WS} {S : Nat → Prop} (H : CW pz h x W) (f : FrG h h' S) (hs : ∀ c, S c → x + 20 ≤ c ∧ c ≤ x + 100) (HS : SCR h' x) : CW pz h' x W := by
  obtain ⟨H1, ⟨H2, H3⟩, H4, H5, H6, -, H8, H9, H10⟩ := H
  have w := H1.1.1
  have hx := H1.1.2.1
  have gd : ∀ c, x + 145 ≤ c → ¬ S c := fun c hc z => by have := hs c z; omega
  have gl : ∀ c, c < x + 20 → ¬ S c := fun c hc z => by have := hs c z; omega
  exact ⟨H1.frg f (gl x (by omega)), H2.frd w H3 f (fun b h1 h2 => gl b (by omega)) gd, H4.frg w hx f (gl x (by omega)) (gl _ (by omega)) (fun i c hc b h1 _ => gd b (by have := H4.2.2 i c hc; omega)), H5.frg hx f (gl _ (by omega)) (gl _ (by omega)), H6.frg w hx f (gl _ (by omega)) (gl _ (by omega)) gd, HS, H8.frg hx f (gl _ (by omega)) (gl _ (by omega)), H9.frg H6 w hx f (gl _ (by omega)) (gl _ (by omega)) gd, H10.frg hx f (fun c h1 h2 z => by have := hs c z; omega)⟩
