/-! a town's cells are written: the rest of the class's state stays -/
def upN (p : Nat → Nat) (k v : Nat) : Nat → Nat := fun i => if i = k then v else p i
theorem upN_eq (p : Nat → Nat) (k v : Nat) : upN p k v k = v := if_pos rfl
theorem upN_ne {p : Nat → Nat} {k v i : Nat} (h : i ≠ k) : upN p k v i = p i := if_neg h
theorem CouAt.frg {h h' : AH} {a : Nat} {S : Nat → Prop} (H : CouAt h a) (f : FrG h h' S) (hl : a + 5 ≤ hN h) (h0 : ¬ S a) : CouAt h' a := by
  have e := (f.2.2.1 a (by omega) h0).1
  simp only [CouAt, e, f.2.1 a (by omega), f.2.1 (a + 1) (by omega), f.2.1 (a + 2) (by omega), f.2.1 (a + 3) (by omega), f.2.1 (a + 4) (by omega)] at H ⊢
  exact H
theorem MomAt.frh {h h' : AH} {a : Nat} {S : Nat → Prop} (H : MomAt h a) (f : FrG h h' S) (hl : a + 6 ≤ hN h) (h0 : ¬ S a) : MomAt h' a := by
  have e := (f.2.2.1 a (by omega) h0).1
  simp only [MomAt, e, f.2.1 a (by omega), f.2.1 (a + 1) (by omega), f.2.1 (a + 2) (by omega), f.2.1 (a + 3) (by omega), f.2.1 (a + 4) (by omega), f.2.1 (a + 5) (by omega)] at H ⊢
  exact H
theorem SCR.frg {h h' : AH} {x : Nat} {S : Nat → Prop} (H : SCR h x) (f : FrG h h' S) (hx : x + 145 ≤ hN h) (hs : ∀ c, x + 20 ≤ c → c ≤ x + 100 → ¬ S c) : SCR h' x := by
  have eS : ∀ c, c ≤ x + 100 → hS h' c = hS h c := fun c hc => f.2.1 c (by omega)
  have eR : ∀ c, x + 20 ≤ c → c ≤ x + 100 → ∀ j, hR h' c j = hR h c j := fun c h1 h2 => (f.2.2.1 c (by omega) (hs c h1 h2)).1
  have eI : ∀ c, x + 20 ≤ c → c ≤ x + 100 → ∀ j, hI h' c j = hI h c j := fun c h1 h2 => (f.2.2.1 c (by omega) (hs c h1 h2)).2.1
  have kc : ∀ a, x + 20 ≤ a → a + 4 ≤ x + 100 → CouAt h a → CouAt h' a := fun a h1 h2 z => z.frg f (by omega) (hs a h1 (by omega))
  have km : ∀ a, x + 20 ≤ a → a + 5 ≤ x + 100 → MomAt h a → MomAt h' a := fun a h1 h2 z => z.frh f (by omega) (hs a h1 (by omega))
  obtain ⟨⟨a1, a2⟩, ⟨b1, b2, b3, b4, b5, b6⟩, ⟨c1, ⟨c2, c3, c4, c5, c6, c7, c8, c9, c10, c11⟩, c12⟩, ⟨d1, d2, d3, d4, d5, d6⟩, ⟨e1, e2, e3, e4⟩⟩ := H
  refine ⟨⟨kc _ (by omega) (by omega) a1, fun j hj => by rw [eI (x + 21) (by omega) (by omega)]; exact a2 j hj⟩, ⟨by rw [eS (x + 25) (by omega)]; exact b1, by rw [eR (x + 25) (by omega) (by omega)]; exact b2, by rw [eR (x + 25) (by omega) (by omega)]; exact b3, kc _ (by omega) (by omega) b4, km _ (by omega) (by omega) b5, fun j hj => by rw [eI (x + 27) (by omega) (by omega)]; exact b6 j hj⟩, ⟨by rw [eS (x + 37) (by omega)]; simp only [eR (x + 37) (by omega) (by omega)]; exact c1, ⟨kc _ (by omega) (by omega) c2, km _ (by omega) (by omega) c3, km _ (by omega) (by omega) c4, km _ (by omega) (by omega) c5, by rw [eS (x + 61) (by omega)]; exact c6, by rw [eS (x + 62) (by omega)]; exact c7, by rw [eS (x + 63) (by omega)]; exact c8, by rw [eS (x + 71) (by omega)]; exact c9, fun i hi => by rw [eS (x + 64 + i) (by omega), eR (x + 63) (by omega) (by omega)]; exact c10 i hi, fun i hi => by rw [eS (x + 72 + i) (by omega), eR (x + 71) (by omega) (by omega)]; exact c11 i hi⟩, fun j hj => by rw [eI (x + 39) (by omega) (by omega)]; exact c12 j hj⟩, ⟨by rw [eS (x + 79) (by omega)]; simp only [eR (x + 79) (by omega) (by omega)]; exact d1, kc _ (by omega) (by omega) d2, km _ (by omega) (by omega) d3, by rw [eS (x + 91) (by omega)]; exact d4, fun i hi => by rw [eS (x + 92 + i) (by omega), eR (x + 91) (by omega) (by omega)]; exact d5 i hi, fun j hj => by rw [eI (x + 81) (by omega) (by omega)]; exact d6 j hj⟩, ⟨by rw [eS (x + 99) (by omega)]; exact e1, by rw [eR (x + 99) (by omega) (by omega)]; exact e2, by rw [eS (x + 100) (by omega)]; exact e3, by rw [eI (x + 100) (by omega) (by omega)]; exact e4⟩⟩
theorem rul_mom_dis {h : AH} {r b : Nat} {c : List (List (Nat × Nat) × List (Nat × Nat))} (HR : RulAt h r c) (HB : MomAt h b) : r + 3 ≤ b ∨ b + 6 ≤ r := by
  obtain ⟨n1, -, -, -, r0, -, -, r1, r2, -⟩ := HR
  obtain ⟨b0, -, -, -, -, -, b1, b2, b3, b4, b5⟩ := HB
  by_cases c : r + 3 ≤ b ∨ b + 6 ≤ r
  · exact c
  · exfalso
    have : b = r ∨ b = r + 1 ∨ b = r + 2 ∨ r = b + 1 ∨ r = b + 2 ∨ r = b + 3 ∨ r = b + 4 ∨ r = b + 5 := by omega
    rcases this with rfl | rfl | rfl | rfl | rfl | rfl | rfl | rfl <;> simp_all
theorem rul_twn_dis {h : AH} {r t : Nat} {c : List (List (Nat × Nat) × List (Nat × Nat))} (HR : RulAt h r c) (HT : TwnAt h t) : r + 3 ≤ t ∨ t + 11 ≤ r := by
  have d := rul_mom_dis HR HT.mom
  obtain ⟨n1, -, -, -, r0, -, -, r1, r2, -⟩ := HR
  obtain ⟨t0, -, -, -, -, -, t7, t8, t9, t10, -⟩ := HT
  by_cases c : r + 3 ≤ t ∨ t + 11 ≤ r
  · exact c
  · exfalso
    have : t = r + 2 ∨ r = t + 7 ∨ r = t + 8 ∨ r = t + 9 ∨ r = t + 10 := by omega
    rcases this with rfl | rfl | rfl | rfl | rfl <;> simp_all
theorem TownIs.tw {h : AH} {t : Nat} {T : TW} (H : TownIs h t T) : TwnAt h t ∧ BfOk h t := by
  obtain ⟨nr, nw, A, fo, x, M, ps, ns⟩ := T
  exact ⟨H.1, H.2.2.2.2.2.1⟩
def twR (h : AH) (x : Nat) : Nat → Nat
  | 0 => x + 8
  | s + 1 => hR h (x + 19) s
def wT (W : WS) : Nat → Option TW
  | 0 => some W.1
  | s + 1 => W.2.2.2 s
def TS (h : AH) (x : Nat) (w : Nat → Option TW) (pz : Nat → Nat) : Prop := hS h (x + 19) = (6, 4) ∧ (∀ k, k ≤ 4 → w k = none → twR h x k = 0) ∧ (∀ k T, k ≤ 4 → w k = some T → (k = 0 ∨ x + 145 ≤ twR h x k) ∧ TownIs h (twR h x k) T ∧ dyn h x (twR h x k) T ∧ nlT h (twR h x k) (pz k)) ∧ (∀ k k' T T', k ≤ 4 → k' ≤ 4 → w k = some T → w k' = some T' → k ≠ k' → twR h x k ≠ twR h x k' ∧ sepT h (twR h x k) (twR h x k'))
theorem CW.ts {pz : PZT} {h : AH} {x : Nat} {W : WS} (H : CW pz h x W) : TS h x (wT W) pz.1 := by
  obtain ⟨H1, ⟨H2, H3⟩, -, -, ⟨i1, i2, i3⟩, -, -, ⟨p1, p2⟩, -⟩ := H
  refine ⟨i1, fun k hk e => ?_, fun k T hk e => ?_, fun k k' T T' hk hk' e e' hn => ?_⟩
  · cases k with
    | zero => cases e
    | succ s =>
      have e : W.2.2.2 s = none := e
      have := i2 s (by omega)
      rw [e] at this
      exact this
  · cases k with
    | zero =>
      cases e
      exact ⟨Or.inl rfl, H2, H3, p1⟩
    | succ s =>
      have e : W.2.2.2 s = some T := e
      have q := i2 s (by omega)
      rw [e] at q
      obtain ⟨a1, a2, a3, a4, a5⟩ := q
      exact ⟨Or.inr a1, a2, a3, p2 s T (by omega) e⟩
  · have key : ∀ s U, s < 4 → W.2.2.2 s = some U → x + 145 ≤ hR h (x + 19) s ∧ sepT h (x + 8) (hR h (x + 19) s) ∧ sepT h (hR h (x + 19) s) (x + 8) := fun s U hs e => by
      have q := i2 s hs
      rw [e] at q
      exact ⟨q.1, q.2.2.2.1, q.2.2.2.2⟩
    cases k with
    | zero =>
      cases k' with
      | zero => exact absurd rfl hn
      | succ s =>
        have q := key s T' (by omega) e'
        exact ⟨by show x + 8 ≠ hR h (x + 19) s; omega, q.2.1⟩
    | succ s =>
      have q := key s T (by omega) e
      cases k' with
      | zero => exact ⟨by show hR h (x + 19) s ≠ x + 8; omega, q.2.2⟩
      | succ s' =>
        have q' := key s' T' (by omega) e'
        exact i3 s s' (by omega) (by omega) (by omega) (by omega) (by omega)
theorem CW.of_ts {p : Nat → Nat} {g h : AH} {x : Nat} {W : WS} (H1 : cHd h x) (H4 : cRl h x W.2.1) (H5 : cTx h x W.2.2.1) (H7 : SCR h x) (H8 : RDR h x) (H10 : EqM h g x) (H : TS h x (wT W) p) : CW (p, g) h x W := by
  obtain ⟨t1, t2, t3, t4⟩ := H
  have q0 := t3 0 W.1 (by omega) rfl
  have k0 : ∀ s, W.2.2.2 s = none → wT W (s + 1) = none := fun s e => e
  have k1 : ∀ s U, W.2.2.2 s = some U → wT W (s + 1) = some U := fun s U e => e
  refine ⟨H1, ⟨q0.2.1, q0.2.2.1⟩, H4, H5, ⟨t1, fun s hs => ?_, fun s s' h1 h2 z1 z2 hn => ?_⟩, H7, H8, ⟨q0.2.2.2, fun s T hs e => (t3 (s + 1) T (by omega) (k1 s T e)).2.2.2⟩, H10⟩
  · cases e : W.2.2.2 s with
    | none => exact t2 (s + 1) (by omega) (k0 s e)
    | some U =>
      have q := t3 (s + 1) U (by omega) (k1 s U e)
      have r1 := (t4 0 (s + 1) W.1 U (by omega) (by omega) rfl (k1 s U e) (by omega)).2
      have r2 := (t4 (s + 1) 0 U W.1 (by omega) (by omega) (k1 s U e) rfl (by omega)).2
      exact ⟨q.1.resolve_left (by omega), q.2.1, q.2.2.1, r1, r2⟩
  · cases e : W.2.2.2 s with
    | none => exact absurd (t2 (s + 1) (by omega) (k0 s e)) z1
    | some U =>
      cases e' : W.2.2.2 s' with
      | none => exact absurd (t2 (s' + 1) (by omega) (k0 s' e')) z2
      | some U' => exact t4 (s + 1) (s' + 1) U U' (by omega) (by omega) (k1 s U e) (k1 s' U' e') (by omega)
theorem blk_not {h : AH} {t u : Nat} {T U : TW} (HT : TownIs h t T) (HU : TownIs h u U) (hn : t ≠ u) (s1 : sepT h t u) : ∀ c, u ≤ c → c ≤ u + 10 → ¬ blkS h t c := fun c h1 h2 z => by
  have dtu := twn_dis HT.tw.1 HU.tw.1 hn
  rcases z with z | ⟨i, hi, z1, z2⟩
  · omega
  · have := twn_mom_dis HU.tw.1 (HT.tw.2 i hi z1).1 (s1 i hi z1).1
    unfold mS at z2
    omega
theorem TS.nb {h : AH} {x k0 : Nat} {w : Nat → Option TW} {pz : Nat → Nat} {T : TW} (H : TS h x w pz) (hk : k0 ≤ 4) (e0 : w k0 = some T) : ∀ c, c < x + 145 → (c < x + 8 ∨ x + 18 < c) → ¬ blkS h (twR h x k0) c := fun c h1 h2 z => by
  have q := H.2.2.1 k0 T hk e0
  have lo : twR h x k0 = x + 8 ∨ x + 145 ≤ twR h x k0 := by
    rcases q.1 with e | e
    · left; rw [e]; rfl
    · exact Or.inr e
  rcases z with z | ⟨i, hi, z1, z2⟩
  · omega
  · have := q.2.2.1.2 i hi z1
    unfold mS at z2
    omega
theorem TS.mod {h h' : AH} {x k0 p' : Nat} {w w' : Nat → Option TW} {pz : Nat → Nat} {T T' : TW} (wf : wfA h) (hx : x + 145 ≤ hN h) (H : TS h x w pz) (hk : k0 ≤ 4) (e0 : w k0 = some T) (f : FrG h h' (blkS h (twR h x k0))) (bn : bfNew h h' (twR h x k0)) (HT : TownIs h' (twR h x k0) T') (hh : hR h' (twR h x k0) 0 ≠ 0 → x + 145 ≤ hR h' (twR h x k0) 0 ∧ 0 < T'.2.2.1 0 0) (np : nlT h' (twR h x k0) p') (w1 : w' k0 = some T') (w2 : ∀ k, k ≠ k0 → w' k = w k) : TS h' x w' (upN pz k0 p') := by
  have nb := H.nb hk e0
  have e19 : ∀ s, hR h' (x + 19) s = hR h (x + 19) s := (f.2.2.1 (x + 19) (by omega) (nb _ (by omega) (by omega))).1
  have et : ∀ k, twR h' x k = twR h x k := fun k => by
    cases k with
    | zero => rfl
    | succ s => exact e19 s
  obtain ⟨t1, t2, t3, t4⟩ := H
  have q0 := t3 k0 T hk e0
  generalize ht : twR h x k0 = t0 at *
  have HT0 := q0.2.1
  have oth : ∀ k U, k ≤ 4 → k ≠ k0 → w k = some U → TownIs h' (twR h x k) U ∧ dyn h' x (twR h x k) U ∧ nlT h' (twR h x k) (pz k) ∧ (∀ j, hR h' (twR h x k + 7) j = hR h (twR h x k + 7) j) ∧ twR h x k + 10 < hN h ∧ BfOk h (twR h x k) := fun k U h1 h2 e => by
    have q := t3 k U h1 e
    have r1 := t4 k0 k T U hk h1 e0 e (fun z => h2 z.symm)
    have r2 := t4 k k0 U T h1 hk e e0 h2
    rw [ht] at r1 r2
    have lt := q.2.1.lt wf
    have nu := blk_not HT0 q.2.1 r1.1 r1.2
    exact ⟨HT0.sep wf q.2.1 r1.1 r1.2 r2.2 f, q.2.2.1.frg f (by omega) (nu _ (by omega) (by omega)) (nu _ (by omega) (by omega)), q.2.2.2.frg f (by omega) (nu _ (by omega) (by omega)), (f.2.2.1 _ (by omega) (nu _ (by omega) (by omega))).1, lt, q.2.1.tw.2⟩
  refine ⟨by rw [f.2.1 (x + 19) (by omega)]; exact t1, fun k h1 e => ?_, fun k U h1 e => ?_, fun k k' U U' h1 h1' e e' hn => ?_⟩
  · rw [et]
    refine t2 k h1 ?_
    rw [← w2 k (fun z => by rw [z, w1] at e; cases e)]
    exact e
  · rw [et]
    by_cases c : k = k0
    · subst c
      rw [w1] at e
      cases e
      rw [ht, upN_eq]
      refine ⟨q0.1, HT, ⟨hh, fun i hi z => ?_⟩, np⟩
      rcases bn i hi z with ⟨j, hj, ej⟩ | ej
      · rw [← ej] at z ⊢
        exact q0.2.2.1.2 j hj z
      · omega
    · rw [w2 k c] at e
      rw [upN_ne c]
      have o := oth k U h1 c e
      exact ⟨(t3 k U h1 e).1, o.1, o.2.1, o.2.2.1⟩
  · rw [et, et]
    by_cases c : k = k0
    · subst c
      have c' : k' ≠ k := fun z => hn z.symm
      rw [w2 k' c'] at e'
      have o := oth k' U' h1' c' e'
      have r1 := t4 k k' T U' hk h1' e0 e' hn
      rw [ht] at r1 ⊢
      refine ⟨r1.1, fun i hi z => ?_⟩
      rcases bn i hi z with ⟨j, hj, ej⟩ | ej
      · rw [← ej] at z ⊢
        exact ⟨(r1.2 j hj z).1, fun l hl => by rw [o.2.2.2.1]; exact (r1.2 j hj z).2 l hl⟩
      · refine ⟨by have := o.2.2.2.2.1; omega, fun l hl y => ?_⟩
        rw [o.2.2.2.1] at y
        have zl : hR h (twR h x k' + 7) l ≠ 0 := by rw [← y]; exact z
        have := (o.2.2.2.2.2 l hl zl).1.lt wf
        omega
    · rw [w2 k c] at e
      have o := oth k U h1 c e
      by_cases c' : k' = k0
      · subst c'
        have r2 := t4 k k' U T h1 hk e e0 hn
        rw [ht] at r2 ⊢
        refine ⟨r2.1, fun i hi z => ?_⟩
        rw [o.2.2.2.1] at z ⊢
        refine ⟨(r2.2 i hi z).1, fun l hl y => ?_⟩
        have zl : hR h' (t0 + 7) l ≠ 0 := by rw [← y]; exact z
        rcases bn l hl zl with ⟨j, hj, ej⟩ | ej
        · exact (r2.2 i hi z).2 j hj (y.trans ej.symm)
        · have := (o.2.2.2.2.2 i hi z).1.lt wf
          omega
      · rw [w2 k' c'] at e'
        have o' := oth k' U' h1' c' e'
        have r := t4 k k' U U' h1 h1' e e' hn
        refine ⟨r.1, fun i hi z => ?_⟩
        rw [o.2.2.2.1] at z ⊢
        exact ⟨(r.2 i hi z).1, fun l hl => by rw [o'.2.2.2.1]; exact (r.2 i hi z).2 l hl⟩
theorem CW.mod {pz : PZT} {h h' : AH} {x k0 p' : Nat} {W W' : WS} {T T' : TW} (H : CW pz h x W) (hk : k0 ≤ 4) (e0 : wT W k0 = some T) (f : FrG h h' (blkS h (twR h x k0))) (bn : bfNew h h' (twR h x k0)) (HT : TownIs h' (twR h x k0) T') (hh : hR h' (twR h x k0) 0 ≠ 0 → x + 145 ≤ hR h' (twR h x k0) 0 ∧ 0 < T'.2.2.1 0 0) (np : nlT h' (twR h x k0) p') (w1 : wT W' k0 = some T') (w2 : ∀ k, k ≠ k0 → wT W' k = wT W k) (e1 : W'.2.1 = W.2.1) (e2 : W'.2.2.1 = W.2.2.1) : CW (upN pz.1 k0 p', pz.2) h' x W' := by
  have HS := H.ts
  have nb := HS.nb hk e0
  have HT0 := (HS.2.2.1 k0 T hk e0).2.1
  obtain ⟨H1, -, H4, H5, -, H7, H8, -, H10⟩ := H
  have wf := H1.1.1
  have hx := H1.1.2.1
  refine CW.of_ts (H1.frg f (nb x (by omega) (by omega))) ?_ ?_ (H7.frg f hx (fun c h1 h2 => nb c (by omega) (by omega))) (H8.frg hx f (nb _ (by omega) (by omega)) (nb _ (by omega) (by omega))) (H10.frg hx f (fun c h1 h2 => nb c (by omega) (by omega))) (HS.mod wf hx hk e0 f bn HT hh np w1 w2)
  · rw [e1]
    refine H4.frg wf hx f (nb x (by omega) (by omega)) (nb _ (by omega) (by omega)) (fun i c hc b h1 h2 z => ?_)
    have R := (H4.2.1.2.2 i c hc).2
    rcases z with z | ⟨j, hj, z1, z2⟩
    · have := rul_twn_dis R HT0.tw.1
      omega
    · have := rul_mom_dis R (HT0.tw.2 j hj z1).1
      unfold mS at z2
      omega
  · rw [e2]
    exact H5.frg hx f (nb _ (by omega) (by omega)) (nb _ (by omega) (by omega))
